/** Promises 1 to 7 and 11: a new object, and what may be added to it. */
public final class SetUpTest {
    private static final int MIN = Integer.MIN_VALUE;
    private static final int MAX = Integer.MAX_VALUE;
    private static final Check CHECK = new Check("SetUpTest");

    public static void main(String[] args) {
        newObject();
        ships();
        shipsByNow();
        tenders();
        tours();
        toursByNow();
        groups();
        groupsWithTours();
        sailedShip();
        town();
        sea();
        guides();
        CHECK.end();
    }

    private static void newObject() {
        ShoreDay day = new ShoreDay();
        for (int what = 0; what <= 9; what++) {
            CHECK.same("count(" + what + ") of a new object", day.count(what), 0);
        }
        CHECK.same("guests of no ship", day.guests(0, 0), -1);
        CHECK.same("lies of no tender", day.lies(0, 0), -1);
        CHECK.same("rides of no tour", day.rides(0, 0), -1);
        CHECK.same("planned of no tour", day.planned(0), -1);
        CHECK.lookThrows(day, 0, 0);
        CHECK.same("minutes(0)", day.minutes(0), 0);
    }

    private static void ships() {
        ShoreDay day = new ShoreDay();
        int[][] wrong = {{0, 60, 0}, {61, 60, 0}, {-1, 60, 0}, {MIN, 60, 0}, {MAX, 60, 0},
            {1, 59, 0}, {1, 720, 0}, {1, MIN, 0}, {1, MAX, 0},
            {1, 60, -1}, {1, 60, 10}, {1, 60, MIN}, {1, 60, MAX}};
        for (int[] w : wrong) {
            CHECK.same("ship" + java.util.Arrays.toString(w), day.ship(w[0], w[1], w[2]), -1);
        }
        CHECK.same("no ship was added", day.count(0), 0);
        CHECK.same("least ship", day.ship(1, 60, 0), 0);
        CHECK.same("greatest ship", day.ship(60, 719, 9), 1);
        CHECK.same("third ship", day.ship(1, 60, 0), 2);
        CHECK.same("fourth ship", day.ship(1, 60, 0), 3);
        CHECK.same("fifth ship", day.ship(1, 60, 0), -1);
        CHECK.same("count(0)", day.count(0), 4);
    }

    private static void shipsByNow() {
        ShoreDay day = new ShoreDay();
        day.minutes(100);
        CHECK.same("it would sail ahead of NOW", day.ship(1, 99, 0), -1);
        CHECK.same("it would sail NOW", day.ship(1, 100, 0), -1);
        CHECK.same("it sails in the next MINUTE", day.ship(1, 101, 0), 0);
        CHECK.same("not sailed yet", day.guests(0, 5), 0);
        day.minutes(1);
        CHECK.same("sailed", day.guests(0, 5), 1);
    }

    private static void tenders() {
        ShoreDay day = new ShoreDay();
        CHECK.same("tender of no ship", day.tender(0, 10), -1);
        day.ship(1, 60, 0);
        int[][] wrong = {{-1, 10}, {1, 10}, {MIN, 10}, {MAX, 10}, {0, 0}, {0, 201}, {0, MIN}, {0, MAX}};
        for (int[] w : wrong) {
            CHECK.same("tender" + java.util.Arrays.toString(w), day.tender(w[0], w[1]), -1);
        }
        CHECK.same("no tender was added", day.count(1), 0);
        CHECK.same("least room", day.tender(0, 1), 0);
        CHECK.same("greatest room", day.tender(0, 200), 1);
        for (int i = 2; i < 6; i++) {
            CHECK.same("tender " + i, day.tender(0, 5), i);
        }
        CHECK.same("seventh tender", day.tender(0, 5), -1);
        CHECK.same("count(1)", day.count(1), 6);
        CHECK.same("lies at the ship at first", day.lies(5, 0), 0);
        CHECK.same("no minutes left at first", day.lies(5, 1), 0);
        CHECK.same("empty at first", day.lies(5, 2), 0);
    }

    private static void tours() {
        ShoreDay day = new ShoreDay();
        int[][] wrong = {{0, 1, 1, 0}, {720, 1, 1, 0}, {MIN, 1, 1, 0}, {MAX, 1, 1, 0},
            {1, 0, 1, 0}, {1, 301, 1, 0}, {1, MIN, 1, 0}, {1, MAX, 1, 0},
            {1, 1, 0, 0}, {1, 1, 201, 0}, {1, 1, MIN, 0}, {1, 1, MAX, 0},
            {1, 1, 1, -1}, {1, 1, 1, 8}, {1, 1, 1, MIN}, {1, 1, 1, MAX}};
        for (int[] w : wrong) {
            CHECK.same("tour" + java.util.Arrays.toString(w), day.tour(w[0], w[1], w[2], w[3]), -1);
        }
        CHECK.same("no tour was added", day.count(2), 0);
        CHECK.same("least tour", day.tour(1, 1, 1, 0), 0);
        CHECK.same("greatest tour", day.tour(719, 300, 200, 7), 1);
        for (int i = 2; i < 8; i++) {
            CHECK.same("tour " + i, day.tour(5, 5, 5, 5), i);
        }
        CHECK.same("ninth tour", day.tour(5, 5, 5, 5), -1);
        CHECK.same("count(2)", day.count(2), 8);
    }

    private static void toursByNow() {
        ShoreDay day = new ShoreDay();
        day.minutes(50);
        CHECK.same("it would begin ahead of NOW", day.tour(49, 1, 1, 0), -1);
        CHECK.same("it would begin NOW", day.tour(50, 1, 1, 0), -1);
        CHECK.same("it begins in the next MINUTE", day.tour(51, 1, 1, 0), 0);
    }

    private static void groups() {
        ShoreDay day = new ShoreDay();
        CHECK.same("group of no ship", day.group(0, 1, 0, 0, -1, 1), -1);
        day.ship(1, 60, 0);
        int[][] wrong = {{-1, 1, 0, 0, -1, 1}, {1, 1, 0, 0, -1, 1}, {MAX, 1, 0, 0, -1, 1},
            {0, 0, 0, 0, -1, 1}, {0, 61, 0, 0, -1, 1}, {0, MIN, 0, 0, -1, 1}, {0, MAX, 0, 0, -1, 1},
            {0, 1, -1, 0, -1, 1}, {0, 1, 1000, 0, -1, 1}, {0, 1, MIN, 0, -1, 1}, {0, 1, MAX, 0, -1, 1},
            {0, 1, 0, -1, -1, 1}, {0, 1, 0, 720, -1, 1}, {0, 1, 0, MIN, -1, 1}, {0, 1, 0, MAX, -1, 1},
            {0, 1, 0, 0, -1, 0}, {0, 1, 0, 0, -1, 601}, {0, 1, 0, 0, -1, MIN}, {0, 1, 0, 0, -1, MAX},
            {0, 1, 0, 0, 0, 1}, {0, 1, 0, 0, -2, 1}, {0, 1, 0, 0, MIN, 1}, {0, 1, 0, 0, MAX, 1}};
        for (int[] w : wrong) {
            CHECK.same("group" + java.util.Arrays.toString(w), day.group(w[0], w[1], w[2], w[3], w[4], w[5]), -1);
        }
        CHECK.same("no group was added", day.count(3), 0);
        CHECK.same("least group", day.group(0, 1, 0, 0, -1, 1), 0);
        CHECK.same("greatest group", day.group(0, 60, 999, 719, -1, 600), 1);
        for (int i = 2; i < 60; i++) {
            CHECK.same("group " + i, day.group(0, 1, i % 7, 0, -1, 5), i);
        }
        CHECK.same("sixty-first group", day.group(0, 1, 0, 0, -1, 5), -1);
        CHECK.same("count(3)", day.count(3), 60);
        CHECK.same("all are aboard", day.guests(0, 0), 119);
    }

    private static void groupsWithTours() {
        ShoreDay day = new ShoreDay();
        day.ship(1, 60, 0);
        day.tour(10, 10, 10, 0);
        CHECK.same("walk is not looked at", day.group(0, 1, 0, 0, 0, MIN), 0);
        CHECK.same("walk is not looked at", day.group(0, 1, 0, 0, 0, 601), 1);
        CHECK.same("no such tour", day.group(0, 1, 0, 0, 1, 5), -1);
        day.minutes(20);
        CHECK.same("a tour that has begun may be told", day.group(0, 1, 0, 0, 0, 0), 2);
    }

    private static void sailedShip() {
        ShoreDay day = new ShoreDay();
        day.ship(1, 60, 0);
        day.minutes(59);
        CHECK.same("tender ahead of sailing", day.tender(0, 5), 0);
        CHECK.same("group ahead of sailing", day.group(0, 1, 0, 0, -1, 5), 0);
        day.minutes(1);
        CHECK.same("tender of a ship that sailed", day.tender(0, 5), -1);
        CHECK.same("group of a ship that sailed", day.group(0, 1, 0, 0, -1, 5), -1);
    }

    private static void town() {
        ShoreDay day = new ShoreDay();
        CHECK.no("holds(0)", day.holds(0));
        CHECK.no("holds(10001)", day.holds(10001));
        CHECK.no("holds(-1)", day.holds(-1));
        CHECK.no("holds(MIN)", day.holds(MIN));
        CHECK.no("holds(MAX)", day.holds(MAX));
        CHECK.yes("holds(1)", day.holds(1));
        CHECK.yes("holds(10000)", day.holds(10000));
    }

    private static void sea() {
        ShoreDay day = new ShoreDay();
        CHECK.no("low below 1", day.shut(0, 5));
        CHECK.no("low far below 1", day.shut(MIN, 5));
        CHECK.no("low above high", day.shut(6, 5));
        CHECK.no("high above 719", day.shut(6, 720));
        CHECK.no("high far above 719", day.shut(6, MAX));
        CHECK.yes("the whole day", day.shut(1, 719));
        for (int i = 1; i < 10; i++) {
            CHECK.yes("row " + i, day.shut(i, i));
        }
        CHECK.no("an eleventh row", day.shut(1, 2));
    }

    private static void guides() {
        ShoreDay day = new ShoreDay();
        int[] wrong = {0, 256, -1, 257, 511, MIN, MAX};
        for (int tongues : wrong) {
            CHECK.same("guide(" + tongues + ")", day.guide(tongues), -1);
        }
        CHECK.same("guide(255)", day.guide(255), 0);
        CHECK.same("guide(1)", day.guide(1), 1);
        CHECK.same("guide(128)", day.guide(128), 2);
        CHECK.same("guide(128)", day.guide(128), 3);
        CHECK.same("guide(128)", day.guide(128), 4);
        CHECK.same("guide(128)", day.guide(128), 5);
        CHECK.same("a seventh guide", day.guide(128), -1);
    }
}
