/** Promises 14 to 18: what is asked beyond what there is, and what each answer is through a GROUP's day. */
public final class AnswerTest {
    private static final int[] FAR = {Integer.MIN_VALUE, -2, -1, 100, Integer.MAX_VALUE};
    private static final Check CHECK = new Check("AnswerTest");

    public static void main(String[] args) {
        noneSuch();
        aDay();
        countsOfWhat();
        CHECK.end();
    }

    private static void noneSuch() {
        ShoreDay day = new ShoreDay();
        day.ship(1, 700, 0);
        day.tender(0, 10);
        day.tour(5, 5, 5, 0);
        day.group(0, 5, 0, 0, 0, 0);
        for (int far : FAR) {
            CHECK.lookThrows(day, far, 0);
            CHECK.lookThrows(day, 0, far);
            CHECK.same("lies(" + far + ", 0)", day.lies(far, 0), -1);
            CHECK.same("lies(0, " + far + ")", day.lies(0, far), -1);
            CHECK.same("guests(" + far + ", 0)", day.guests(far, 0), -1);
            CHECK.same("guests(0, " + far + ")", day.guests(0, far), -1);
            CHECK.same("rides(" + far + ", 0)", day.rides(far, 0), -1);
            CHECK.same("rides(0, " + far + ")", day.rides(0, far), -1);
            CHECK.same("count(" + far + ")", day.count(far), -1);
            CHECK.same("planned(" + far + ")", day.planned(far), -1);
        }
        CHECK.lookThrows(day, 1, 0);
        CHECK.lookThrows(day, 0, 6);
        CHECK.same("lies(1, 0)", day.lies(1, 0), -1);
        CHECK.same("lies(0, 3)", day.lies(0, 3), -1);
        CHECK.same("guests(1, 0)", day.guests(1, 0), -1);
        CHECK.same("guests(0, 6)", day.guests(0, 6), -1);
        CHECK.same("rides(1, 0)", day.rides(1, 0), -1);
        CHECK.same("rides(0, 3)", day.rides(0, 3), -1);
        CHECK.same("count(10)", day.count(10), -1);
    }

    private static void looks(ShoreDay day, String when, int... due) {
        for (int what = 0; what < due.length; what++) {
            CHECK.same(when + ", look(1, " + what + ")", day.look(1, what), due[what]);
        }
    }

    private static void guests(ShoreDay day, String when, int... due) {
        for (int what = 0; what < due.length; what++) {
            CHECK.same(when + ", guests(0, " + what + ")", day.guests(0, what), due[what]);
        }
    }

    /** GROUP 1 of SHIP 0 in TENDER 1; the sea is shut for a while as it waits at the QUAY. */
    private static void aDay() {
        ShoreDay day = new ShoreDay();
        day.ship(10, 100, 0);
        day.ship(10, 500, 0);
        day.tender(1, 10);
        day.tender(0, 10);
        day.tour(20, 30, 5, 0);
        day.group(1, 4, 0, 0, -1, 600);
        day.group(0, 5, 0, 2, 0, 0);
        day.shut(45, 60);
        Check.read(day, "fee 3 when tour;");
        day.minutes(1);
        looks(day, "aboard", 0, -1, -1, -1, 0, -1);
        guests(day, "aboard", 5, 0, 0, 0, 0, 0);
        day.minutes(1);
        looks(day, "in a tender", 1, 1, -1, -1, 0, -1);
        guests(day, "in a tender", 0, 5, 0, 0, 0, 0);
        day.minutes(10);
        looks(day, "ashore", 2, -1, 12, -1, 15, -1);
        guests(day, "ashore", 0, 0, 5, 0, 0, 0);
        day.minutes(8);
        looks(day, "on a tour", 3, -1, 12, -1, 15, -1);
        guests(day, "on a tour", 0, 0, 5, 0, 0, 0);
        day.minutes(30);
        looks(day, "at the quay", 4, -1, 12, -1, 15, 50);
        guests(day, "at the quay", 0, 0, 5, 0, 0, 0);
        CHECK.same("in town, of all ships", day.count(5), 9);
        day.minutes(11);
        looks(day, "in a tender again", 1, 1, 12, -1, 15, -1);
        guests(day, "in a tender again", 0, 5, 0, 0, 0, 0);
        day.minutes(10);
        looks(day, "back", 5, -1, 12, 71, 15, -1);
        guests(day, "back", 0, 0, 0, 5, 0, 0);
        day.minutes(50);
        looks(day, "sailed with the ship", 5, -1, 12, 71, 15, -1);
        guests(day, "sailed with the ship", 0, 0, 0, 5, 0, 1);
        day.minutes(200);
        day.minutes(178);
        CHECK.same("the other ship's walks", day.look(0, 0), 2);
        day.minutes(1);
        CHECK.same("and is left", day.look(0, 0), 6);
        CHECK.same("of ship 1", day.guests(1, 4), 4);
        CHECK.same("of ship 0", day.guests(0, 4), 0);
    }

    private static void countsOfWhat() {
        ShoreDay day = new ShoreDay();
        day.ship(1, 500, 0);
        day.ship(1, 500, 0);
        day.ship(1, 500, 0);
        day.tender(0, 9);
        day.tour(5, 5, 5, 0);
        day.tour(5, 5, 5, 0);
        day.group(0, 7, 0, 0, -1, 3);
        day.group(0, 2, 0, 0, -1, 20);
        day.group(0, 5, 0, 400, -1, 3);
        day.group(0, 5, 0, 400, -1, 3);
        Check.read(day, "fee 2 when guests = 7; fee 1 when 1;");
        Check.feed(day, "fee 0");
        day.minutes(6);
        int[] due = {3, 1, 2, 4, 6, 2, 16, 9, 2, 5};
        for (int what = 0; what < due.length; what++) {
            CHECK.same("count(" + what + ")", day.count(what), due[what]);
        }
    }
}
