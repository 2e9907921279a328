import java.util.ArrayList;
import java.util.Comparator;
import java.util.List;

/**
 * The document once more, written for reading and not for speed, to hold ShoreDay against: nothing that can be
 * worked out is kept, and a text is kept as its tokens and worked out anew for each GROUP.
 */
final class Model {
    static final class Ship {
        int way;
        int sails;
        int rank;
    }

    static final class Tender {
        int ship;
        int room;
        String at = "ship";
        int left;
    }

    static final class Tour {
        int begins;
        int lasts;
        int seats;
        int tongue;
    }

    static final class Group {
        int number;
        int ship;
        int guests;
        int ticket;
        int from;
        int tour;
        int walk;
        int state;
        int tender = -1;
        int landed = -1;
        int back = -1;
        int paid;
        int quay = -1;
        int walkBegan;
        int walkLasts;
        boolean rode;
    }

    final List<Ship> ships = new ArrayList<>();
    final List<Tender> tenders = new ArrayList<>();
    final List<Tour> tours = new ArrayList<>();
    final List<Group> groups = new ArrayList<>();
    final List<int[]> shut = new ArrayList<>();
    final List<Integer> guides = new ArrayList<>();
    List<Integer> latest = new ArrayList<>();
    String tape = "";
    ModelText text = new ModelText("");
    int town = 10000;
    int now;

    private static boolean in(int n, int low, int high) {
        return low <= n && n <= high;
    }

    private boolean sailed(int ship) {
        return ships.get(ship).sails <= now;
    }

    int ship(int way, int sails, int rank) {
        if (!in(way, 1, 60) || !in(sails, 60, 719) || !in(rank, 0, 9) || sails <= now || ships.size() == 4) {
            return -1;
        }
        Ship s = new Ship();
        s.way = way;
        s.sails = sails;
        s.rank = rank;
        ships.add(s);
        return ships.size() - 1;
    }

    int tender(int ship, int room) {
        if (!in(ship, 0, ships.size() - 1) || sailed(ship) || !in(room, 1, 200) || tenders.size() == 6) {
            return -1;
        }
        Tender t = new Tender();
        t.ship = ship;
        t.room = room;
        tenders.add(t);
        return tenders.size() - 1;
    }

    int tour(int begins, int lasts, int seats, int tongue) {
        if (!in(begins, 1, 719) || !in(lasts, 1, 300) || !in(seats, 1, 200) || !in(tongue, 0, 7)
                || begins <= now || tours.size() == 8) {
            return -1;
        }
        Tour t = new Tour();
        t.begins = begins;
        t.lasts = lasts;
        t.seats = seats;
        t.tongue = tongue;
        tours.add(t);
        return tours.size() - 1;
    }

    int group(int ship, int guests, int ticket, int from, int tour, int walk) {
        if (!in(ship, 0, ships.size() - 1) || sailed(ship) || !in(guests, 1, 60) || !in(ticket, 0, 999)
                || !in(from, 0, 719) || !in(tour, -1, tours.size() - 1)
                || tour == -1 && !in(walk, 1, 600) || groups.size() == 60) {
            return -1;
        }
        Group g = new Group();
        g.number = groups.size();
        g.ship = ship;
        g.guests = guests;
        g.ticket = ticket;
        g.from = from;
        g.tour = tour;
        g.walk = walk;
        groups.add(g);
        return g.number;
    }

    boolean holds(int n) {
        town = in(n, 1, 10000) ? n : town;
        return in(n, 1, 10000);
    }

    boolean shut(int low, int high) {
        return low >= 1 && low <= high && high <= 719 && shut.size() < 10 && shut.add(new int[] {low, high});
    }

    int minutes(int n) {
        if (!in(n, 0, 200) || now + n > 719) {
            return -1;
        }
        for (int i = 0; i < n; i++) {
            now++;
            one();
            two();
            three();
            four();
            if (shut.stream().noneMatch(row -> in(now, row[0], row[1]))) {
                five();
            }
        }
        return now;
    }

    private void one() {
        for (Tender t : tenders) {
            if (t.at.startsWith("to") && --t.left == 0) {
                t.at = t.at.equals("to ship") ? "ship" : "quay";
                for (Group g : inside(t)) {
                    g.tender = -1;
                    if (t.at.equals("ship")) {
                        g.state = 5;
                        g.back = now;
                    } else {
                        g.paid = g.guests * text.fee(facts(g));
                        g.landed = now;
                        g.state = 2;
                        walk(g, g.tour == -1 ? g.walk : tours.get(g.tour).begins < now ? 60 : 1000);
                    }
                }
            }
        }
    }

    private int[] facts(Group g) {
        int ahead = groups.stream().filter(o -> o.landed != -1).mapToInt(o -> o.guests).sum();
        return new int[] {g.guests, g.tour == -1 ? 0 : 1, now / 60, ships.get(g.ship).rank, g.ship, ahead};
    }

    private void walk(Group g, int lasts) {
        g.walkBegan = now;
        g.walkLasts = lasts;
    }

    private List<Group> inside(Tender t) {
        return groups.stream().filter(g -> g.tender == tenders.indexOf(t)).toList();
    }

    private int load(Tender t) {
        return inside(t).stream().mapToInt(g -> g.guests).sum();
    }

    private int riders(int tour) {
        return groups.stream().filter(g -> g.rode && g.tour == tour).mapToInt(g -> g.guests).sum();
    }

    private List<Group> byTickets() {
        return groups.stream().sorted(Comparator.comparingInt((Group g) -> g.ticket).thenComparing(g -> g.number))
            .toList();
    }

    private void two() {
        for (int i = 0; i < tours.size(); i++) {
            if (tours.get(i).begins != now) {
                continue;
            }
            for (Group g : byTickets()) {
                if (g.state == 2 && g.tour == i) {
                    if (riders(i) + g.guests <= tours.get(i).seats) {
                        g.state = 3;
                        g.rode = true;
                    } else {
                        walk(g, 60);
                    }
                }
            }
        }
    }

    private void three() {
        for (Group g : groups) {
            boolean walked = g.state == 2 && g.walkBegan + g.walkLasts <= now;
            boolean toured = g.state == 3 && tours.get(g.tour).begins + tours.get(g.tour).lasts <= now;
            if (walked || toured) {
                g.state = 4;
                g.quay = now;
            }
        }
    }

    private void four() {
        for (int i = 0; i < ships.size(); i++) {
            if (ships.get(i).sails != now) {
                continue;
            }
            for (Group g : groups) {
                if (g.ship == i && in(g.state, 1, 4)) {
                    g.state = 6;
                    g.tender = -1;
                }
            }
            for (Tender t : tenders) {
                if (t.ship == i) {
                    t.at = "nowhere";
                }
            }
        }
    }

    private int forTheTown() {
        int sum = 0;
        for (Group g : groups) {
            if (in(g.state, 2, 4)
                    || g.state == 1 && List.of("ship", "to quay").contains(tenders.get(g.tender).at)) {
                sum += g.guests;
            }
        }
        return sum;
    }

    private void five() {
        for (Tender t : tenders) {
            int number = tenders.indexOf(t);
            if (t.at.equals("ship")) {
                for (Group g : byTickets()) {
                    if (g.ship == t.ship && g.state == 0 && g.from <= now && load(t) + g.guests <= t.room
                            && forTheTown() + g.guests <= town) {
                        g.state = 1;
                        g.tender = number;
                    }
                }
                if (load(t) > 0 || groups.stream().anyMatch(g -> g.ship == t.ship && g.state == 4)) {
                    leave(t, "to quay");
                }
            } else if (t.at.equals("quay")) {
                List<Group> order = groups.stream().filter(g -> g.state == 4 && g.ship == t.ship)
                    .sorted(Comparator.comparingInt((Group g) -> g.quay).thenComparing(g -> g.number)).toList();
                for (Group g : order) {
                    if (load(t) + g.guests <= t.room) {
                        g.state = 1;
                        g.tender = number;
                    }
                }
                if (load(t) > 0
                        || groups.stream().anyMatch(g -> g.ship == t.ship && g.state == 0 && g.from <= now)) {
                    leave(t, "to ship");
                }
            }
        }
    }

    private void leave(Tender t, String to) {
        t.at = to;
        t.left = ships.get(t.ship).way;
    }

    int feed(long a, long b, long c) {
        for (long bytes : new long[] {a, b, c}) {
            for (byte sign : java.nio.ByteBuffer.allocate(8).putLong(bytes).array()) {
                if ((sign == 10 || sign >= 32 && sign <= 126) && tape.length() < 600) {
                    tape += (char) sign;
                }
            }
        }
        return tape.length();
    }

    int text() {
        ModelText read = new ModelText(tape);
        tape = "";
        if (read.fault() == 0) {
            text = read;
        }
        return read.fault();
    }

    int guide(int tongues) {
        if (!in(tongues, 1, 255) || guides.size() == 6) {
            return -1;
        }
        guides.add(tongues);
        return guides.size() - 1;
    }

    int plan() {
        List<Integer> best = new ArrayList<>();
        int seats = tryPlans(new ArrayList<>(), best, -1);
        latest = best;
        return seats;
    }

    private int tryPlans(List<Integer> plan, List<Integer> best, int most) {
        if (plan.size() == tours.size()) {
            int seats = 0;
            for (int i = 0; i < plan.size(); i++) {
                seats += plan.get(i) == -1 ? 0 : tours.get(i).seats;
            }
            if (seats > most) {
                best.clear();
                best.addAll(plan);
            }
            return Math.max(seats, most);
        }
        int tongue = tours.get(plan.size()).tongue;
        for (int guide = 0; guide <= guides.size(); guide++) {
            int chosen = guide == guides.size() ? -1 : guide;
            if (chosen == -1 || !plan.contains(guide) && (guides.get(guide) >> tongue) % 2 == 1) {
                plan.add(chosen);
                most = tryPlans(plan, best, most);
                plan.remove(plan.size() - 1);
            }
        }
        return most;
    }

    int planned(int tour) {
        return in(tour, 0, latest.size() - 1) ? latest.get(tour) : -1;
    }

    /** Any number below -1 stands for the exception. */
    int look(int group, int what) {
        if (!in(group, 0, groups.size() - 1) || !in(what, 0, 5)) {
            return -99;
        }
        Group g = groups.get(group);
        return new int[] {g.state, g.tender, g.landed, g.back, g.paid, g.state == 4 ? g.quay : -1}[what];
    }

    int lies(int tender, int what) {
        if (!in(tender, 0, tenders.size() - 1) || !in(what, 0, 2)) {
            return -1;
        }
        Tender t = tenders.get(tender);
        int at = List.of("ship", "to quay", "quay", "to ship", "nowhere").indexOf(t.at);
        return new int[] {at, at == 1 || at == 3 ? t.left : 0, load(t)}[what];
    }

    private int sum(int ship, int... states) {
        int sum = 0;
        for (Group g : groups) {
            for (int state : states) {
                sum += g.state == state && (ship == -1 || g.ship == ship) ? g.guests : 0;
            }
        }
        return sum;
    }

    int guests(int ship, int what) {
        if (!in(ship, 0, ships.size() - 1) || !in(what, 0, 5)) {
            return -1;
        }
        return new int[] {sum(ship, 0), sum(ship, 1), sum(ship, 2, 3, 4), sum(ship, 5), sum(ship, 6),
            sailed(ship) ? 1 : 0}[what];
    }

    int rides(int tour, int what) {
        if (!in(tour, 0, tours.size() - 1) || !in(what, 0, 2)) {
            return -1;
        }
        Tour t = tours.get(tour);
        return new int[] {riders(tour), t.seats - riders(tour), t.begins <= now ? 1 : 0}[what];
    }

    int count(int what) {
        if (!in(what, 0, 9)) {
            return -1;
        }
        int paid = groups.stream().mapToInt(g -> g.paid).sum();
        int landed = groups.stream().filter(g -> g.landed != -1).mapToInt(g -> g.guests).sum();
        return new int[] {ships.size(), tenders.size(), tours.size(), groups.size(), now, sum(-1, 2, 3, 4), paid, landed,
            text.lines(), tape.length()}[what];
    }
}
