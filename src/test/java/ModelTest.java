import java.util.NoSuchElementException;
import java.util.Random;

/** All promises at once: runs of calls by chance (the same ones every time), each answer held against the model's. */
public final class ModelTest {
    private static final Check CHECK = new Check("ModelTest");
    private static final String[] WORDS = {"guests", "tour", "hour", "rank", "ship", "landed"};
    private static final String[] STRAY = {"fee", "when", "and", "(", ")", "<", "=", "+", "-", ";", "12345", "1000", "x",
        "abcdefghi", "?", "\n", " ", "((((((", "5", "tour"};
    private final Random random;
    private final ShoreDay day = new ShoreDay();
    private final Model model = new Model();
    private final String name;

    private ModelTest(int seed) {
        random = new Random(seed);
        name = "run " + seed + ", ";
    }

    public static void main(String[] args) {
        int runs = args.length > 0 ? Integer.parseInt(args[0]) : 400;
        for (int seed = 0; seed < runs; seed++) {
            new ModelTest(seed).run();
        }
        CHECK.end();
    }

    private int upTo(int low, int high) {
        return low + random.nextInt(high - low + 1);
    }

    private void run() {
        int pace = upTo(1, 12);
        int size = upTo(1, 60);
        for (int i = upTo(1, 4); i > 0; i--) {
            addShip();
        }
        for (int i = upTo(0, 5); i > 0; i--) {
            addTender();
        }
        for (int i = 0; i < 400; i++) {
            step(pace, size);
        }
        compareAll();
    }

    private void step(int pace, int size) {
        int n = upTo(0, 99);
        if (n < 2) {
            addShip();
        } else if (n < 4) {
            addTender();
        } else if (n < 8) {
            addTour();
        } else if (n < 28) {
            addGroup(size);
        } else if (n < 31) {
            int holds = upTo(-3, random.nextBoolean() ? 60 : 400);
            CHECK.same(name + "holds", day.holds(holds) ? 1 : 0, model.holds(holds) ? 1 : 0);
        } else if (n < 33) {
            int low = model.now + upTo(-3, 20);
            int high = low + upTo(-1, 15);
            CHECK.same(name + "shut", day.shut(low, high) ? 1 : 0, model.shut(low, high) ? 1 : 0);
        } else if (n < 60) {
            int minutes = upTo(0, pace);
            CHECK.same(name + "minutes", day.minutes(minutes), model.minutes(minutes));
            compareAll();
        } else if (n < 66) {
            feedText();
        } else if (n < 68) {
            CHECK.same(name + "text", day.text(), model.text());
        } else if (n < 70) {
            int tongues = random.nextInt(9) == 0 ? upTo(-1, 300) : 1 << upTo(0, 3) | 1 << upTo(0, 3);
            CHECK.same(name + "guide", day.guide(tongues), model.guide(tongues));
        } else if (n < 71 && (model.tours.size() < 6 || random.nextInt(5) == 0)) {
            CHECK.same(name + "plan", day.plan(), model.plan());
        }
    }

    private void addShip() {
        int way = upTo(0, 20);
        int sails = upTo(55, random.nextBoolean() ? 200 : 725);
        int rank = upTo(0, 10);
        CHECK.same(name + "ship", day.ship(way, sails, rank), model.ship(way, sails, rank));
    }

    private void addTender() {
        int ship = upTo(0, 4);
        int room = upTo(0, random.nextBoolean() ? 60 : 201);
        CHECK.same(name + "tender", day.tender(ship, room), model.tender(ship, room));
    }

    private void addTour() {
        int begins = model.now + upTo(0, 60);
        int lasts = upTo(0, 50);
        int seats = upTo(0, random.nextBoolean() ? 40 : 201);
        int tongue = upTo(0, random.nextInt(9) == 0 ? 8 : 3);
        CHECK.same(name + "tour", day.tour(begins, lasts, seats, tongue), model.tour(begins, lasts, seats, tongue));
    }

    private void addGroup(int size) {
        int ship = upTo(0, 4);
        int guests = upTo(0, size);
        int ticket = random.nextInt(20) == 0 ? upTo(-1, 1000) : upTo(0, 5);
        int from = Math.max(-1, model.now + upTo(-20, 30));
        int tour = random.nextBoolean() ? -1 : upTo(-2, model.tours.size());
        int walk = upTo(0, 60);
        CHECK.same(name + "group", day.group(ship, guests, ticket, from, tour, walk),
            model.group(ship, guests, ticket, from, tour, walk));
    }

    private void feedText() {
        StringBuilder text = new StringBuilder();
        for (int i = upTo(0, random.nextInt(20) == 0 ? 18 : 4); i > 0; i--) {
            text.append("fee").append(blank()).append(upTo(0, random.nextInt(30) == 0 ? 1200 : 999));
            text.append(blank()).append("when").append(" ").append(expression(0)).append(";").append(blank());
        }
        if (random.nextInt(3) == 0 && text.length() > 0) {
            int at = random.nextInt(text.length());
            int end = Math.min(text.length(), at + upTo(0, 3));
            text.replace(at, end, STRAY[random.nextInt(STRAY.length)]);
        }
        int length = Check.feed(day, text.toString());
        for (char sign : text.toString().toCharArray()) {
            model.feed(sign, 0, 0);
        }
        CHECK.same(name + "feed", length, model.tape.length());
        if (random.nextInt(6) != 0) {
            CHECK.same(name + "text of " + text, day.text(), model.text());
        }
    }

    private String blank() {
        return random.nextInt(4) == 0 ? "" : random.nextInt(9) == 0 ? "\n " : " ";
    }

    private String expression(int depth) {
        StringBuilder e = new StringBuilder(test(depth));
        while (random.nextInt(3) == 0) {
            e.append(" and ").append(test(depth));
        }
        return e.toString();
    }

    private String test(int depth) {
        String sum = sum(depth);
        return random.nextBoolean() ? sum : sum + blank() + (random.nextBoolean() ? "<" : "=") + blank() + sum(depth);
    }

    private String sum(int depth) {
        StringBuilder e = new StringBuilder(part(depth));
        while (random.nextInt(3) == 0) {
            e.append(blank()).append(random.nextBoolean() ? "+" : "-").append(blank()).append(part(depth));
        }
        return e.toString();
    }

    private String part(int depth) {
        if (random.nextInt(4) == 0 && depth < 6) {
            return "(" + expression(depth + 1) + ")";
        }
        return random.nextInt(3) == 0 ? Integer.toString(upTo(0, 12)) : WORDS[random.nextInt(WORDS.length)];
    }

    private int look(int group, int what) {
        try {
            return day.look(group, what);
        } catch (NoSuchElementException e) {
            return -99;
        }
    }

    private void compareAll() {
        String at = name + "in " + model.now + ", ";
        for (int what = -1; what <= 10; what++) {
            CHECK.same(at + "count " + what, day.count(what), model.count(what));
        }
        for (int what = -1; what <= 6; what++) {
            for (int i = -1; i <= 4; i++) {
                CHECK.same(at + "guests " + i + " " + what, day.guests(i, what), model.guests(i, what));
            }
            for (int i = -1; i <= model.tenders.size(); i++) {
                CHECK.same(at + "lies " + i + " " + what, day.lies(i, what), model.lies(i, what));
            }
            for (int i = -1; i <= model.tours.size(); i++) {
                CHECK.same(at + "rides " + i + " " + what, day.rides(i, what), model.rides(i, what));
                CHECK.same(at + "planned " + i, day.planned(i), model.planned(i));
            }
            for (int i = -1; i <= model.groups.size(); i++) {
                CHECK.same(at + "look " + i + " " + what, look(i, what), model.look(i, what));
            }
        }
    }
}
