import java.util.List;

/**
 * A refused call changes nothing, of what can't be asked as well (what THE TOWN holds, the rows of THE SEA, the text,
 * who guides): two objects have the same day, and one of them is asked in between for all that is refused there.
 */
public final class RefusedTest {
    private static final int MIN = Integer.MIN_VALUE;
    private static final int MAX = Integer.MAX_VALUE;
    private static final int[] FAR = {MIN, MIN + 1, -2, -1, 720, 10001, MAX - 1, MAX};
    private static final Check CHECK = new Check("RefusedTest");
    private final ShoreDay plain = new ShoreDay();
    private final ShoreDay asked = new ShoreDay();

    public static void main(String[] args) {
        new RefusedTest().dayWithFewOfAll();
        new RefusedTest().dayWithAllFull();
        CHECK.end();
    }

    private List<ShoreDay> both() {
        return List.of(plain, asked);
    }

    private void refuse(String call, int answer) {
        CHECK.same(call + " is refused", answer, -1);
    }

    private void refuseAlways() {
        for (int far : FAR) {
            refuse("ship", asked.ship(far, 700, 0));
            refuse("ship", asked.ship(5, far, 0));
            refuse("ship", asked.ship(5, 700, far));
            refuse("tender", asked.tender(far, 5));
            refuse("tender", asked.tender(0, far));
            refuse("tour", asked.tour(far, 5, 5, 0));
            refuse("tour", asked.tour(719, far, 5, 0));
            refuse("tour", asked.tour(719, 5, far, 0));
            refuse("tour", asked.tour(719, 5, 5, far));
            refuse("group", asked.group(far, 5, 0, 0, -1, 5));
            refuse("group", asked.group(0, far, 0, 0, -1, 5));
            refuse("group", asked.group(0, 5, 0, far, -1, 5));
            refuse("group", asked.group(0, 5, 0, 0, -1, far));
            refuse("guide", asked.guide(far));
            refuse("minutes", asked.minutes(far));
            refuse("holds", asked.holds(far == 720 ? 0 : far) ? 0 : -1);
            refuse("shut", asked.shut(far, 300) ? 0 : -1);
            refuse("shut", asked.shut(300, far) ? 0 : -1);
            refuse("planned", asked.planned(far));
            CHECK.lookThrows(asked, far, 0);
            CHECK.lookThrows(asked, 0, far);
        }
        refuse("group", asked.group(0, 5, -1, 0, -1, 5));
        refuse("group", asked.group(0, 5, 1000, 0, -1, 5));
        refuse("group", asked.group(0, 5, 0, 0, 8, 5));
        refuse("minutes", asked.minutes(201));
        CHECK.same("no sign comes on the tape", asked.feed(0, -1, 0x7f801f09000d00ffL), plain.count(9));
        compare("after what is refused");
    }

    private void compare(String when) {
        CHECK.yes(when + " in " + plain.count(4) + ": the same", Snapshot.of(plain).equals(Snapshot.of(asked)));
    }

    private void go(int minutes, int step) {
        for (int i = 0; i < minutes; i += step) {
            for (ShoreDay day : both()) {
                day.minutes(step);
            }
            compare("gone");
            if (i % 20 == 0) {
                refuseAlways();
            }
        }
    }

    /** The TOWN is short of room, the SEA shuts, fees are due, a plan stands: each is felt if it were changed. */
    private void dayWithFewOfAll() {
        refuseAlways();
        for (ShoreDay day : both()) {
            day.ship(7, 150, 2);
            day.ship(3, 719, 4);
            day.tender(0, 12);
            day.tender(1, 9);
            day.tour(25, 20, 8, 3);
            day.holds(17);
            day.shut(30, 36);
            day.guide(8);
            CHECK.same("the plan", day.plan(), 8);
            Check.read(day, "fee 3 when landed < 20; fee 7 when guests < 5;");
            Check.feed(day, "fee 1 wh");
        }
        for (int i = 0; i < 20; i++) {
            for (ShoreDay day : both()) {
                day.group(i % 2, 1 + i % 6, i * 7 % 5, i * 3, i % 3 == 0 ? 0 : -1, 4 + i % 9);
            }
            refuseAlways();
        }
        go(200, 5);
        for (ShoreDay day : both()) {
            CHECK.same("the rest of the tape", Check.feed(day, "en 1;"), 13);
            CHECK.same("the text", day.text(), 0);
            day.group(1, 4, 0, 200, -1, 5);
            CHECK.same("the next guide", day.guide(9), 1);
            CHECK.same("the next plan", day.plan(), 8);
        }
        go(100, 10);
        CHECK.same("paid by the last text", asked.look(20, 4), 4);
    }

    private void dayWithAllFull() {
        for (ShoreDay day : both()) {
            for (int i = 0; i < 4; i++) {
                day.ship(5 + i, 200 + 100 * i, i);
            }
            for (int i = 0; i < 6; i++) {
                day.tender(i % 4, 20 + i);
                day.guide(1 << i);
            }
            for (int i = 0; i < 8; i++) {
                day.tour(20 + 9 * i, 30, 10 + i, i);
            }
            for (int i = 0; i < 10; i++) {
                day.shut(40 + 20 * i, 45 + 20 * i);
            }
            for (int i = 0; i < 60; i++) {
                day.group(i % 4, 1 + i % 13, i * 37 % 11, i, i % 9 - 1, 5 + i);
            }
            Check.feed(day, " ".repeat(600));
            day.plan();
        }
        compare("full");
        for (int i = 0; i < 10; i++) {
            refuseFull();
            go(40, 8);
        }
    }

    private void refuseFull() {
        refuse("a fifth ship", asked.ship(5, 719, 5));
        refuse("a seventh tender", asked.tender(3, 20));
        refuse("a ninth tour", asked.tour(719, 5, 5, 5));
        refuse("a 61st group", asked.group(3, 1, 0, 0, -1, 1));
        refuse("an eleventh row", asked.shut(1, 719) ? 0 : -1);
        refuse("a seventh guide", asked.guide(255));
        CHECK.same("a full tape", asked.feed(0x6665652030207768L, 0x656e20313b000000L, 0), 600);
        compare("after what is full");
    }
}
