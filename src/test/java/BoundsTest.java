import java.util.NoSuchElementException;

/**
 * Promises 1 to 8, 11 and 13 to 18: each number of each call by itself at its least and greatest, one below and one
 * above, and far off; what is full stays full; and what comes too late is refused from the very MINUTE on.
 */
public final class BoundsTest {
    private static final int MIN = Integer.MIN_VALUE;
    private static final int MAX = Integer.MAX_VALUE;
    private static final Check CHECK = new Check("BoundsTest");

    /** Answers NONE (or -1 in place of false or of an exception) if the call is refused. */
    private interface Call {
        int ask(ShoreDay day, int[] numbers);
    }

    public static void main(String[] args) {
        numbersOfAdding();
        numbersOfAsking();
        rowsOfTheSea();
        walkIsLookedAtWithoutTour();
        fullOfShips();
        fullOfTenders();
        fullOfTours();
        fullOfGroups();
        fullOfRows();
        fullOfGuides();
        refusedCountsForNothing();
        byNow();
        sailsInItsMinute();
        lastMinuteOfTheDay();
        CHECK.end();
    }

    /** Two ships, a tender, a tour and a group: number 0 (and 1) of each is there, the next is not. */
    private static ShoreDay prepared() {
        ShoreDay day = new ShoreDay();
        day.ship(10, 600, 3);
        day.ship(10, 600, 3);
        day.tender(0, 20);
        day.tour(30, 30, 20, 2);
        day.group(0, 5, 5, 5, -1, 5);
        return day;
    }

    private static void bounds(String name, Call call, int[] good, int[]... lowHigh) {
        for (int i = 0; i < good.length; i++) {
            int low = lowHigh[i][0];
            int high = lowHigh[i][1];
            ask(name, call, good, i, low, true);
            ask(name, call, good, i, high, true);
            for (int wrong : new int[] {low - 1, high + 1, MIN, MIN + 1, MAX - 1, MAX}) {
                ask(name, call, good, i, wrong, false);
            }
        }
    }

    private static void ask(String name, Call call, int[] good, int which, int number, boolean due) {
        int[] numbers = good.clone();
        numbers[which] = number;
        ShoreDay day = prepared();
        String was = Snapshot.of(day);
        boolean taken = call.ask(day, numbers) != -1;
        String told = name + java.util.Arrays.toString(numbers);
        CHECK.same(told + " is taken", taken ? 1 : 0, due ? 1 : 0);
        CHECK.yes(told + " changes nothing if refused", due || was.equals(Snapshot.of(day)));
    }

    private static int[] of(int... lowHigh) {
        return lowHigh;
    }

    private static void numbersOfAdding() {
        bounds("ship", (day, n) -> day.ship(n[0], n[1], n[2]), of(10, 600, 3), of(1, 60), of(60, 719), of(0, 9));
        bounds("tender", (day, n) -> day.tender(n[0], n[1]), of(0, 20), of(0, 1), of(1, 200));
        bounds("tour", (day, n) -> day.tour(n[0], n[1], n[2], n[3]), of(30, 30, 20, 2),
            of(1, 719), of(1, 300), of(1, 200), of(0, 7));
        bounds("group", (day, n) -> day.group(n[0], n[1], n[2], n[3], n[4], n[5]), of(0, 5, 5, 5, -1, 5),
            of(0, 1), of(1, 60), of(0, 999), of(0, 719), of(-1, 0), of(1, 600));
        bounds("holds", (day, n) -> day.holds(n[0]) ? 0 : -1, of(100), of(1, 10000));
        bounds("minutes", (day, n) -> day.minutes(n[0]), of(5), of(0, 200));
        bounds("guide", (day, n) -> day.guide(n[0]), of(4), of(1, 255));
    }

    private static void numbersOfAsking() {
        bounds("look", BoundsTest::lookOrNone, of(0, 0), of(0, 0), of(0, 5));
        bounds("lies", (day, n) -> day.lies(n[0], n[1]), of(0, 0), of(0, 0), of(0, 2));
        bounds("guests", (day, n) -> day.guests(n[0], n[1]), of(0, 0), of(0, 1), of(0, 5));
        bounds("rides", (day, n) -> day.rides(n[0], n[1]), of(0, 0), of(0, 0), of(0, 2));
        bounds("count", (day, n) -> day.count(n[0]), of(0), of(0, 9));
        bounds("planned", BoundsTest::plannedOfEight, of(0), of(0, 7));
        bounds("planned of one tour", BoundsTest::plannedOfOne, of(0), of(0, 0));
    }

    private static int lookOrNone(ShoreDay day, int[] n) {
        try {
            day.look(n[0], n[1]);
            return 0;
        } catch (NoSuchElementException e) {
            return -1;
        }
    }

    /** Each of its own tour: a plan has a guide for the first and for the last TOUR that there can be. */
    private static int plannedOfEight(ShoreDay unused, int[] n) {
        ShoreDay day = new ShoreDay();
        for (int i = 0; i < 8; i++) {
            day.tour(5, 5, i == 0 || i == 7 ? 9 : 1, i);
        }
        day.guide(1);
        day.guide(128);
        day.plan();
        return day.planned(n[0]);
    }

    private static int plannedOfOne(ShoreDay unused, int[] n) {
        ShoreDay day = new ShoreDay();
        day.tour(5, 5, 9, 0);
        day.guide(1);
        day.plan();
        return day.planned(n[0]);
    }

    private static void row(int low, int high, boolean due) {
        ShoreDay day = new ShoreDay();
        CHECK.same("shut(" + low + ", " + high + ")", day.shut(low, high) ? 1 : 0, due ? 1 : 0);
    }

    private static void rowsOfTheSea() {
        row(1, 1, true);
        row(719, 719, true);
        row(1, 719, true);
        row(300, 300, true);
        row(300, 301, true);
        row(0, 0, false);
        row(0, 719, false);
        row(-1, 5, false);
        row(MIN, 5, false);
        row(MIN, MIN, false);
        row(MIN, MAX, false);
        row(301, 300, false);
        row(719, 1, false);
        row(5, MIN, false);
        row(5, -1, false);
        row(5, 720, false);
        row(720, 720, false);
        row(5, MAX, false);
        row(MAX, MAX, false);
        row(MAX, MIN, false);
    }

    private static void walkIsLookedAtWithoutTour() {
        for (int walk : new int[] {MIN, -1, 0, 1, 600, 601, MAX}) {
            CHECK.same("with a tour, walk " + walk, prepared().group(0, 5, 5, 5, 0, walk), 1);
            CHECK.same("none such, walk " + walk, prepared().group(0, 5, 5, 5, 1, walk), -1);
            CHECK.same("none such, walk " + walk, prepared().group(0, 5, 5, 5, -2, walk), -1);
        }
    }

    /** Those that sailed are there as well. */
    private static void fullOfShips() {
        ShoreDay day = new ShoreDay();
        for (int i = 0; i < 4; i++) {
            CHECK.same("ship " + i, day.ship(1, 60 + i, 9 - i), i);
        }
        CHECK.same("a fifth ship", day.ship(1, 60, 0), -1);
        day.minutes(100);
        CHECK.same("a fifth, when all sailed", day.ship(1, 700, 0), -1);
        CHECK.same("count(0)", day.count(0), 4);
        CHECK.same("guests of the last", day.guests(3, 5), 1);
        CHECK.same("guests of the next", day.guests(4, 5), -1);
    }

    /** 6 in all, not of one SHIP; those that go no more are there as well. */
    private static void fullOfTenders() {
        ShoreDay day = new ShoreDay();
        for (int i = 0; i < 4; i++) {
            day.ship(1, 60 + i * 100, 0);
        }
        for (int i = 0; i < 6; i++) {
            CHECK.same("tender " + i, day.tender(i % 4, 1 + i), i);
        }
        CHECK.same("a seventh tender", day.tender(3, 5), -1);
        day.minutes(200);
        CHECK.same("two go no more", day.lies(0, 0) + day.lies(4, 0), 8);
        CHECK.same("a seventh, when some go no more", day.tender(3, 5), -1);
        CHECK.same("count(1)", day.count(1), 6);
        CHECK.same("lies of the last", day.lies(5, 0), 4);
        CHECK.same("lies of the next", day.lies(6, 0), -1);
    }

    /** Those that are over are there as well. */
    private static void fullOfTours() {
        ShoreDay day = new ShoreDay();
        for (int i = 0; i < 8; i++) {
            CHECK.same("tour " + i, day.tour(1 + i, 1, 1, i), i);
        }
        CHECK.same("a ninth tour", day.tour(5, 1, 1, 0), -1);
        day.minutes(100);
        CHECK.same("a ninth, when all are over", day.tour(500, 1, 1, 0), -1);
        CHECK.same("count(2)", day.count(2), 8);
        CHECK.same("rides of the last", day.rides(7, 2), 1);
        CHECK.same("rides of the next", day.rides(8, 2), -1);
    }

    /** 60 in all, not of one SHIP; those that are BACK or LEFT are there as well. */
    private static void fullOfGroups() {
        ShoreDay day = new ShoreDay();
        day.ship(1, 60, 0);
        day.ship(1, 700, 0);
        day.tender(0, 200);
        day.tender(1, 200);
        for (int i = 0; i < 60; i++) {
            CHECK.same("group " + i, day.group(i % 2, 1, i, 0, -1, i % 2 == 0 ? 600 : 1), i);
        }
        CHECK.same("a 61st group", day.group(1, 1, 0, 0, -1, 1), -1);
        day.minutes(100);
        CHECK.same("left", day.guests(0, 4), 30);
        CHECK.same("back", day.guests(1, 3), 30);
        CHECK.same("a 61st, when all are back or left", day.group(1, 1, 0, 0, -1, 1), -1);
        CHECK.same("count(3)", day.count(3), 60);
        CHECK.same("the last", day.look(59, 0), 5);
        CHECK.lookThrows(day, 60, 0);
    }

    /** Those that are over, and those that lie in others, are there as well. */
    private static void fullOfRows() {
        ShoreDay day = new ShoreDay();
        for (int i = 0; i < 10; i++) {
            CHECK.yes("row " + i, day.shut(1, 2));
        }
        CHECK.no("an eleventh row", day.shut(1, 2));
        day.minutes(100);
        CHECK.no("an eleventh, when all are over", day.shut(101, 300));
        day.ship(1, 700, 0);
        day.tender(0, 5);
        day.group(0, 5, 0, 0, -1, 5);
        day.minutes(1);
        CHECK.same("the refused row shuts nothing", day.look(0, 0), 1);
        ShoreDay tenth = oneGroup();
        for (int i = 0; i < 9; i++) {
            tenth.shut(700, 700);
        }
        CHECK.yes("the tenth row", tenth.shut(1, 3));
        tenth.minutes(3);
        CHECK.same("the tenth row shuts", tenth.look(0, 0), 0);
        tenth.minutes(1);
        CHECK.same("till it is over", tenth.look(0, 0), 1);
    }

    private static ShoreDay oneGroup() {
        ShoreDay day = new ShoreDay();
        day.ship(1, 700, 0);
        day.tender(0, 5);
        day.group(0, 5, 0, 0, -1, 5);
        return day;
    }

    private static void fullOfGuides() {
        ShoreDay day = new ShoreDay();
        for (int i = 0; i < 6; i++) {
            CHECK.same("guide " + i, day.guide(1 << i), i);
        }
        CHECK.same("a seventh guide", day.guide(64), -1);
        day.tour(5, 5, 7, 6);
        day.tour(5, 5, 9, 5);
        CHECK.same("the seventh is in no plan", day.plan(), 9);
        CHECK.same("the sixth is", day.planned(1), 5);
    }

    /** However often one is refused, as many as the document says find room behind. */
    private static void refusedCountsForNothing() {
        ShoreDay day = new ShoreDay();
        for (int i = 0; i < 5; i++) {
            day.ship(0, 600, 0);
            day.tour(0, 5, 5, 0);
            day.guide(0);
        }
        for (int i = 0; i < 11; i++) {
            day.shut(5, 4);
        }
        fill("ship", 4, () -> day.ship(1, 600, 0));
        for (int i = 0; i < 61; i++) {
            day.tender(4, 5);
            day.group(4, 5, 0, 0, -1, 5);
        }
        fill("tender", 6, () -> day.tender(0, 5));
        fill("tour", 8, () -> day.tour(1, 5, 5, 0));
        fill("guide", 6, () -> day.guide(1));
        fill("group", 60, () -> day.group(0, 5, 0, 0, -1, 5));
        for (int i = 0; i < 10; i++) {
            CHECK.yes("row " + i, day.shut(4, 5));
        }
        CHECK.no("row 10", day.shut(4, 5));
    }

    private static void fill(String name, int most, java.util.function.IntSupplier call) {
        for (int i = 0; i < most; i++) {
            CHECK.same(name + " " + i, call.getAsInt(), i);
        }
        CHECK.same(name + " " + most, call.getAsInt(), -1);
    }

    /** By NOW: in it and ahead of it, but not in the next MINUTE. */
    private static void byNow() {
        for (int now : new int[] {60, 61, 200, 717, 718}) {
            ShoreDay day = at(now);
            CHECK.same("sails ahead of " + now, day.ship(1, now - 1, 0), -1);
            CHECK.same("sails in " + now, day.ship(1, now, 0), -1);
            CHECK.same("begins ahead of " + now, day.tour(now - 1, 1, 1, 0), -1);
            CHECK.same("begins in " + now, day.tour(now, 1, 1, 0), -1);
            CHECK.same("sails behind " + now, day.ship(1, now + 1, 0), 0);
            CHECK.same("begins behind " + now, day.tour(now + 1, 1, 1, 0), 0);
        }
        CHECK.same("60 in 59", at(59).ship(1, 60, 0), 0);
        CHECK.same("59 is no MINUTE to sail in", at(58).ship(1, 59, 0), -1);
        CHECK.same("1 in 0", at(0).tour(1, 1, 1, 0), 0);
        CHECK.same("1 in 1", at(1).tour(1, 1, 1, 0), -1);
        CHECK.same("no ship in 719", at(719).ship(1, 719, 0), -1);
        CHECK.same("no tour in 719", at(719).tour(719, 1, 1, 0), -1);
    }

    private static ShoreDay at(int now) {
        ShoreDay day = new ShoreDay();
        for (int i = 0; i < now / 100; i++) {
            day.minutes(100);
        }
        CHECK.same("NOW", day.minutes(now % 100), now);
        return day;
    }

    private static void sailsInItsMinute() {
        for (int sails : new int[] {60, 300, 719}) {
            ShoreDay day = at(sails - 1 - (sails - 1) % 100);
            day.ship(1, sails, 0);
            day.minutes((sails - 1) % 100);
            CHECK.same("not sailed ahead of " + sails, day.guests(0, 5), 0);
            CHECK.same("a tender ahead of " + sails, day.tender(0, 5), 0);
            CHECK.same("a group ahead of " + sails, day.group(0, 5, 0, 0, -1, 5), 0);
            day.minutes(1);
            CHECK.same("sailed in " + sails, day.guests(0, 5), 1);
            CHECK.same("a tender in " + sails, day.tender(0, 5), -1);
            CHECK.same("a group in " + sails, day.group(0, 5, 0, 0, -1, 5), -1);
            CHECK.same("no tender more", day.count(1), 1);
            CHECK.same("no group more", day.count(3), 1);
        }
    }

    /** In 719 nothing goes by any more, but what needs no MINUTE is done. */
    private static void lastMinuteOfTheDay() {
        ShoreDay day = at(719);
        CHECK.same("minutes(0)", day.minutes(0), 719);
        CHECK.same("minutes(1)", day.minutes(1), -1);
        CHECK.same("minutes(200)", day.minutes(200), -1);
        CHECK.yes("holds", day.holds(5));
        CHECK.yes("shut", day.shut(719, 719));
        CHECK.same("guide", day.guide(5), 0);
        CHECK.same("plan", day.plan(), 0);
        CHECK.same("text", Check.read(day, "fee 1 when 1;"), 0);
        CHECK.same("lines", day.count(8), 1);
        CHECK.same("up to 719 from 520", at(520).minutes(199), 719);
        CHECK.same("beyond 719 from 520", at(520).minutes(200), -1);
        CHECK.same("up to 719 from 519", at(519).minutes(200), 719);
        ShoreDay refused = at(520);
        refused.minutes(200);
        CHECK.same("not a MINUTE went by", refused.count(4), 520);
    }
}
