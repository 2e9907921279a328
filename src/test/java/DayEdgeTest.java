/** Promise 8 and section 2 of the terms at their edges: the first and the last MINUTE of each way, walk, TOUR and row. */
public final class DayEdgeTest {
    private static final Check CHECK = new Check("DayEdgeTest");

    public static void main(String[] args) {
        emptyDay();
        shortestAndLongestWay();
        fromItsMinute();
        shortestWalk();
        longestWalk();
        walkBeyondTheDay();
        tourInTheFirstMinute();
        shortestAndLongestTour();
        tourBeyondTheDay();
        tourMissedByOne();
        seatsToTheLast();
        seatsAcrossShips();
        roomToTheLast();
        roomOfOne();
        oneGuestIsSomeone();
        townToTheLast();
        townCountsLoadingTenders();
        townForgetsWhoIsGone();
        townWithLessThanAreThere();
        allAboardAtTheLast();
        arrivesAndGoesInOneMinute();
        emptyTenderGoesOnlyForItsShip();
        someoneOfAnotherShipAtTheQuay();
        tooManyForAnyTender();
        seaInItsRowAlone();
        seaStopsTendersThatLieAlone();
        seaShutAllDay();
        fullestMinute();
        CHECK.end();
    }

    private static ShoreDay day(int way, int sails, int room) {
        ShoreDay day = new ShoreDay();
        day.ship(way, sails, 0);
        day.tender(0, room);
        return day;
    }

    /** Goes to a MINUTE, in steps that one call may have. */
    private static void to(ShoreDay day, int minute) {
        while (day.count(4) < minute) {
            day.minutes(Math.min(200, minute - day.count(4)));
        }
        CHECK.same("NOW", day.count(4), minute);
    }

    private static void states(String when, ShoreDay day, int... due) {
        for (int i = 0; i < due.length; i++) {
            CHECK.same(when + " in " + day.count(4) + ": group " + i, day.look(i, 0), due[i]);
        }
    }

    private static void tender(String when, ShoreDay day, int number, int... due) {
        for (int what = 0; what < due.length; what++) {
            CHECK.same(when + " in " + day.count(4) + ": lies(" + number + ", " + what + ")",
                day.lies(number, what), due[what]);
        }
    }

    private static void emptyDay() {
        ShoreDay day = new ShoreDay();
        to(day, 719);
        for (int what = 0; what <= 9; what++) {
            CHECK.same("count(" + what + ") of an empty day", day.count(what), what == 4 ? 719 : 0);
        }
        ShoreDay lone = new ShoreDay();
        lone.ship(1, 60, 0);
        to(lone, 60);
        CHECK.same("a ship without a tender or a group sails", lone.guests(0, 5), 1);
        ShoreDay idle = day(1, 60, 5);
        to(idle, 59);
        tender("nobody to go", idle, 0, 0, 0, 0);
        to(idle, 60);
        tender("nobody went", idle, 0, 4, 0, 0);
    }

    /** Its way begins to be counted with the next MINUTE. */
    private static void shortestAndLongestWay() {
        for (int way : new int[] {1, 2, 59, 60}) {
            ShoreDay day = day(way, 719, 5);
            day.group(0, 5, 0, 0, -1, 600);
            tender("ahead of the first MINUTE", day, 0, 0, 0, 0);
            to(day, 1);
            tender("leaves", day, 0, 1, way, 5);
            to(day, way);
            tender("one MINUTE is left", day, 0, 1, 1, 5);
            states("not there", day, 1);
            to(day, way + 1);
            tender("there", day, 0, 2, 0, 0);
            CHECK.same("landed in", day.look(0, 2), way + 1);
        }
    }

    private static void fromItsMinute() {
        for (int from : new int[] {0, 1, 2, 300, 718}) {
            ShoreDay day = day(1, 719, 5);
            day.group(0, 5, 0, from, -1, 600);
            int due = Math.max(1, from);
            to(day, due - 1);
            states("its MINUTE has not come", day, 0);
            to(day, due);
            states("its MINUTE has come", day, 1);
        }
        ShoreDay last = day(1, 719, 5);
        last.group(0, 5, 0, 719, -1, 600);
        to(last, 719);
        states("the ship sails ahead of step 5", last, 0);
        CHECK.same("it stays aboard", last.guests(0, 0), 5);
        CHECK.same("nobody is left", last.guests(0, 4), 0);
        ShoreDay late = day(1, 719, 5);
        to(late, 300);
        late.group(0, 5, 0, 7, -1, 600);
        to(late, 301);
        states("its MINUTE came long ago", late, 1);
    }

    /** Over so many MINUTES after it began: landed in 2 with 1 to walk, it is at the QUAY in 3. */
    private static void shortestWalk() {
        ShoreDay day = day(1, 719, 5);
        day.group(0, 5, 0, 0, -1, 1);
        day.shut(3, 4);
        to(day, 2);
        states("walks", day, 2);
        CHECK.same("not at the quay", day.look(0, 5), -1);
        to(day, 3);
        states("the walk is over", day, 4);
        CHECK.same("since", day.look(0, 5), 3);
        to(day, 4);
        CHECK.same("since, a MINUTE later", day.look(0, 5), 3);
        to(day, 5);
        CHECK.same("in the tender", day.look(0, 5), -1);
        to(day, 6);
        states("back", day, 5);
        CHECK.same("back in", day.look(0, 3), 6);
    }

    private static void longestWalk() {
        ShoreDay day = day(1, 719, 5);
        day.group(0, 5, 0, 0, -1, 600);
        day.shut(602, 602);
        to(day, 601);
        states("walks", day, 2);
        to(day, 602);
        states("the walk is over", day, 4);
        CHECK.same("since", day.look(0, 5), 602);
    }

    private static void walkBeyondTheDay() {
        ShoreDay day = day(1, 719, 5);
        day.group(0, 5, 0, 118, -1, 600);
        to(day, 718);
        states("walks", day, 2);
        CHECK.same("in town", day.count(5), 5);
        to(day, 719);
        states("left as its walk is over", day, 6);
        CHECK.same("in town", day.count(5), 0);
        CHECK.same("nobody at the quay", day.look(0, 5), -1);
    }

    private static void tourInTheFirstMinute() {
        ShoreDay day = day(1, 719, 5);
        day.tour(1, 1, 5, 0);
        day.group(0, 5, 0, 0, 0, 0);
        CHECK.same("not begun in 0", day.rides(0, 2), 0);
        to(day, 1);
        CHECK.same("begun in 1", day.rides(0, 2), 1);
        CHECK.same("nobody on it", day.rides(0, 0), 0);
        CHECK.same("all seats left", day.rides(0, 1), 5);
        to(day, 61);
        states("walks 60 from 2", day, 2);
        to(day, 62);
        states("goes back", day, 1);
    }

    private static void shortestAndLongestTour() {
        for (int lasts : new int[] {1, 2, 300}) {
            ShoreDay day = day(1, 719, 5);
            day.tour(10, lasts, 5, 0);
            day.group(0, 5, 0, 0, 0, 0);
            day.shut(10 + lasts, 10 + lasts);
            to(day, 9);
            states("walks till it begins", day, 2);
            CHECK.same("not begun", day.rides(0, 2), 0);
            to(day, 10);
            states("on it", day, 3);
            CHECK.same("begun", day.rides(0, 2), 1);
            to(day, 9 + lasts);
            states("on it to the last", day, 3);
            to(day, 10 + lasts);
            states("over", day, 4);
            CHECK.same("since", day.look(0, 5), 10 + lasts);
            CHECK.same("guests that were on it", day.rides(0, 0), 5);
        }
    }

    private static void tourBeyondTheDay() {
        ShoreDay day = new ShoreDay();
        day.ship(1, 719, 0);
        day.ship(1, 718, 0);
        day.tender(0, 5);
        day.tender(1, 5);
        day.tour(719, 300, 9, 0);
        day.tour(500, 300, 9, 0);
        day.group(0, 5, 0, 0, 0, 0);
        day.group(1, 4, 0, 0, 1, 0);
        to(day, 718);
        states("one walks till 719, one's ship sailed", day, 2, 6);
        CHECK.same("tour 0 has not begun", day.rides(0, 2), 0);
        to(day, 719);
        states("on the tour in the MINUTE in which the ship sails", day, 6, 6);
        CHECK.same("guests that were on it", day.rides(0, 0), 5);
        CHECK.same("seats left", day.rides(0, 1), 4);
        CHECK.same("begun", day.rides(0, 2), 1);
        CHECK.same("guests that were on the other", day.rides(1, 0), 4);
    }

    /** Landed in the MINUTE in which it begins a GROUP has its TOUR; one MINUTE later it walks 60. */
    private static void tourMissedByOne() {
        for (int begins : new int[] {10, 11, 12}) {
            ShoreDay day = day(10, 719, 5);
            day.tour(begins, 200, 5, 0);
            day.group(0, 5, 0, 0, 0, 7);
            day.shut(71, 72);
            to(day, 11);
            states("tour in " + begins, day, begins == 11 ? 3 : 2);
            to(day, 12);
            states("tour in " + begins, day, begins == 10 ? 2 : 3);
            to(day, 70);
            states("tour in " + begins, day, begins == 10 ? 2 : 3);
            to(day, 71);
            states("tour in " + begins, day, begins == 10 ? 4 : 3);
        }
    }

    private static void seatsToTheLast() {
        ShoreDay day = day(1, 719, 200);
        day.tender(0, 200);
        day.tour(10, 20, 200, 0);
        day.tour(10, 20, 1, 0);
        int[] guests = {60, 60, 60, 21, 20, 1};
        for (int i = 0; i < guests.length; i++) {
            day.group(0, guests[i], i, 0, 0, 0);
        }
        day.group(0, 2, 0, 0, 1, 0);
        day.group(0, 1, 9, 0, 1, 0);
        day.shut(70, 70);
        to(day, 10);
        states("one too many walks, the last seat is taken", day, 3, 3, 3, 2, 3, 2, 2, 3);
        CHECK.same("all seats of tour 0", day.rides(0, 0), 200);
        CHECK.same("none left", day.rides(0, 1), 0);
        CHECK.same("the one seat of tour 1", day.rides(1, 0), 1);
        CHECK.same("none left", day.rides(1, 1), 0);
        to(day, 69);
        CHECK.same("walks 60 from 10", day.look(3, 0), 2);
        to(day, 70);
        CHECK.same("at the quay", day.look(3, 5), 70);
        CHECK.same("at the quay", day.look(6, 5), 70);
    }

    /** By tickets, of one ticket by numbers, whatever the SHIP. */
    private static void seatsAcrossShips() {
        ShoreDay day = new ShoreDay();
        day.ship(1, 719, 0);
        day.ship(2, 719, 9);
        day.tender(0, 200);
        day.tender(1, 200);
        day.tour(10, 20, 10, 0);
        day.group(0, 5, 999, 0, 0, 0);
        day.group(1, 5, 0, 0, 0, 0);
        day.group(0, 5, 998, 0, 0, 0);
        day.group(1, 5, 998, 0, 0, 0);
        day.group(1, 5, 0, 10, 0, 0);
        to(day, 10);
        states("who is aboard has no seat", day, 2, 3, 3, 2, 0);
    }

    private static void roomToTheLast() {
        ShoreDay day = day(1, 719, 200);
        int[] guests = {60, 60, 60, 21, 20, 1};
        for (int i = 0; i < guests.length; i++) {
            day.group(0, guests[i], i, 0, -1, 600);
        }
        to(day, 1);
        states("one too many stays, the last room is taken", day, 1, 1, 1, 0, 1, 0);
        tender("full", day, 0, 1, 1, 200);
        to(day, 2);
        tender("goes back for the others", day, 0, 3, 1, 0);
        to(day, 3);
        states("now they go", day, 2, 2, 2, 1, 2, 1);
        tender("with them", day, 0, 1, 1, 22);
    }

    private static void roomOfOne() {
        ShoreDay day = day(1, 719, 1);
        day.group(0, 2, 0, 0, -1, 600);
        day.group(0, 1, 999, 0, -1, 1);
        to(day, 1);
        states("one finds room", day, 0, 1);
        to(day, 2);
        tender("at the quay, and back for who is aboard", day, 0, 3, 1, 0);
        to(day, 3);
        tender("who does not fit; but one is at the quay", day, 0, 1, 1, 0);
        to(day, 4);
        tender("takes the one", day, 0, 3, 1, 1);
        to(day, 5);
        states("back", day, 0, 5);
        tender("lies: nobody fits, nobody is at the quay", day, 0, 0, 0, 0);
    }

    /** It leaves if someone is in it: one guest is enough, though nobody waits on the other side. */
    private static void oneGuestIsSomeone() {
        ShoreDay day = day(3, 719, 200);
        day.group(0, 1, 0, 0, -1, 5);
        to(day, 1);
        tender("leaves the ship with one", day, 0, 1, 3, 1);
        to(day, 8);
        tender("lies at the quay for nobody", day, 0, 2, 0, 0);
        to(day, 9);
        tender("leaves the quay with one", day, 0, 3, 3, 1);
        to(day, 12);
        states("back", day, 5);
    }

    private static void townToTheLast() {
        for (int holds : new int[] {1, 59, 60, 61}) {
            ShoreDay day = day(1, 719, 200);
            day.holds(holds);
            day.group(0, 60, 0, 0, -1, 600);
            day.group(0, 1, 1, 0, -1, 600);
            to(day, 1);
            states("the town holds " + holds, day, holds < 60 ? 0 : 1, holds == 60 ? 0 : 1);
        }
    }

    /** In TENDERS on the way there or loading for it: what the first one took counts for the second, and so on. */
    private static void townCountsLoadingTenders() {
        ShoreDay day = new ShoreDay();
        day.ship(5, 719, 0);
        day.ship(7, 719, 0);
        day.tender(0, 4);
        day.tender(1, 9);
        day.tender(0, 9);
        day.holds(11);
        day.group(1, 5, 0, 0, -1, 600);
        day.group(0, 4, 0, 0, -1, 600);
        day.group(0, 3, 0, 0, -1, 600);
        day.group(0, 2, 9, 0, -1, 600);
        to(day, 1);
        states("4, then 5, then 2 of the third", day, 1, 1, 0, 1);
        to(day, 6);
        states("still full", day, 1, 2, 0, 2);
        day.holds(13);
        to(day, 20);
        states("one too few", day, 2, 2, 0, 2);
        day.holds(14);
        to(day, 30);
        states("held", day, 2, 2, 2, 2);
        CHECK.same("in town", day.count(5), 14);
    }

    /** Who is LEFT, BACK or on the way back is nobody whom THE TOWN holds. */
    private static void townForgetsWhoIsGone() {
        ShoreDay day = new ShoreDay();
        day.ship(1, 60, 0);
        day.ship(1, 719, 0);
        day.tender(0, 9);
        day.tender(1, 9);
        day.holds(9);
        day.group(0, 9, 0, 0, -1, 600);
        day.group(1, 9, 0, 0, -1, 38);
        day.group(1, 9, 1, 0, -1, 600);
        to(day, 59);
        states("full", day, 2, 0, 0);
        CHECK.same("in town", day.count(5), 9);
        to(day, 60);
        states("who is left makes room in the very MINUTE", day, 6, 1, 0);
        CHECK.same("in town", day.count(5), 0);
        to(day, 98);
        states("full", day, 6, 2, 0);
        to(day, 99);
        states("who is at the quay counts", day, 6, 4, 0);
        to(day, 100);
        states("the tender fetches", day, 6, 1, 0);
        to(day, 101);
        states("back makes room", day, 6, 5, 1);
    }

    private static void townWithLessThanAreThere() {
        ShoreDay day = day(1, 719, 9);
        day.group(0, 9, 0, 0, -1, 20);
        day.group(0, 1, 1, 0, -1, 20);
        to(day, 2);
        CHECK.yes("less than are there", day.holds(1));
        CHECK.same("they stay", day.count(5), 9);
        to(day, 22);
        states("nobody more till they are in a tender", day, 4, 0);
        to(day, 23);
        states("fetched", day, 1, 0);
        to(day, 24);
        states("back, and one is held", day, 5, 1);
    }

    /** In the MINUTE in which the ship sails: back in time or landed, but nobody gets in. */
    private static void allAboardAtTheLast() {
        for (int walk : new int[] {48, 49, 50, 53, 54, 55}) {
            ShoreDay day = day(5, 60, 9);
            day.group(0, 9, 0, 0, -1, walk);
            int leavesQuay = 6 + walk;
            int isBack = leavesQuay + 5;
            to(day, 59);
            states("walk " + walk, day, isBack <= 59 ? 5 : leavesQuay <= 59 ? 1 : 2);
            to(day, 60);
            states("walk " + walk, day, isBack <= 60 ? 5 : 6);
            CHECK.same("back in", day.look(0, 3), isBack <= 60 ? isBack : -1);
            tender("goes no more", day, 0, 4, 0, 0);
        }
        ShoreDay landing = day(5, 60, 9);
        landing.group(0, 9, 0, 55, -1, 5);
        Check.read(landing, "fee 2 when hour = 1;");
        to(landing, 60);
        states("landed as the ship sails", landing, 6);
        CHECK.same("landed in", landing.look(0, 2), 60);
        CHECK.same("paid", landing.count(6), 18);
        CHECK.same("landed", landing.count(7), 9);
        ShoreDay onTheWay = day(5, 60, 9);
        onTheWay.group(0, 9, 0, 56, -1, 5);
        to(onTheWay, 60);
        states("one MINUTE later it is left in the tender", onTheWay, 6);
        CHECK.same("never landed", onTheWay.look(0, 2), -1);
        CHECK.same("none landed", onTheWay.count(7), 0);
        CHECK.same("none in tenders", onTheWay.guests(0, 1), 0);
        CHECK.same("left", onTheWay.guests(0, 4), 9);
        tender("goes no more", onTheWay, 0, 4, 0, 0);
    }

    /** There in step 1, it takes in step 5 of the same MINUTE who came to the QUAY in step 3, or who is ABOARD. */
    private static void arrivesAndGoesInOneMinute() {
        ShoreDay day = day(5, 719, 9);
        day.group(0, 9, 0, 0, -1, 10);
        day.group(0, 9, 1, 0, -1, 10);
        to(day, 6);
        states("one landed", day, 2, 0);
        to(day, 11);
        states("the other got in at once", day, 2, 1);
        to(day, 15);
        states("walks", day, 2, 1);
        to(day, 16);
        states("the walk over, the tender there: in it at once", day, 1, 2);
        tender("on the way back", day, 0, 3, 5, 9);
        to(day, 21);
        states("back", day, 5, 2);
        tender("lies", day, 0, 0, 0, 0);
        to(day, 26);
        states("at the quay", day, 5, 4);
        tender("goes to fetch", day, 0, 1, 5, 0);
    }

    private static void emptyTenderGoesOnlyForItsShip() {
        ShoreDay day = new ShoreDay();
        day.ship(5, 719, 0);
        day.ship(5, 719, 0);
        day.tender(0, 9);
        day.tender(1, 9);
        day.group(0, 9, 0, 0, -1, 3);
        day.group(1, 9, 0, 20, -1, 3);
        day.shut(2, 14);
        to(day, 14);
        states("at the quay of ship 0", day, 4, 0);
        day.tender(0, 1);
        to(day, 15);
        tender("fetches", day, 0, 3, 5, 9);
        tender("of another ship", day, 1, 0, 0, 0);
        tender("nobody is at the quay any more", day, 2, 0, 0, 0);
        to(day, 25);
        tender("back, and nobody of its ship waits", day, 0, 0, 0, 0);
        tender("landed, and nobody of its ship waits", day, 1, 2, 0, 0);
        day.group(1, 9, 0, 28, -1, 3);
        to(day, 27);
        tender("the MINUTE has not come", day, 1, 2, 0, 0);
        to(day, 28);
        tender("the MINUTE has come, and one came to the quay", day, 1, 3, 5, 9);
    }

    /** A GROUP waits at the QUAY for long, its own SHIP's TENDER being away: the other SHIP's does not come for it. */
    private static void someoneOfAnotherShipAtTheQuay() {
        ShoreDay day = new ShoreDay();
        day.ship(5, 719, 0);
        day.ship(5, 719, 0);
        day.tender(0, 9);
        day.tender(1, 9);
        day.group(1, 9, 0, 0, -1, 3);
        day.group(1, 9, 1, 2, -1, 600);
        to(day, 6);
        tender("goes back for the other group", day, 1, 3, 5, 0);
        for (int minute = 9; minute < 16; minute++) {
            to(day, minute);
            states("one waits at the quay", day, 4, minute < 11 ? 0 : 1);
            tender("of another ship", day, 0, 0, 0, 0);
        }
        to(day, 16);
        states("fetched by its own", day, 1, 2);
        tender("of its ship", day, 1, 3, 5, 9);
        tender("of another ship still", day, 0, 0, 0, 0);
    }

    /** A GROUP that no TENDER has room for: one at the QUAY goes back for it, and lies at the SHIP. */
    private static void tooManyForAnyTender() {
        ShoreDay day = day(5, 719, 59);
        day.group(0, 60, 0, 2, -1, 5);
        day.group(0, 59, 1, 0, -1, 600);
        to(day, 6);
        tender("goes back", day, 0, 3, 5, 0);
        to(day, 11);
        tender("lies", day, 0, 0, 0, 0);
        to(day, 605);
        tender("lies still", day, 0, 0, 0, 0);
        states("one walks", day, 0, 2);
        to(day, 606);
        tender("fetches the other", day, 0, 1, 5, 0);
        to(day, 719);
        states("aboard all day", day, 0, 5);
    }

    /** Low to high, both among it; rows that touch, lie in one another, or are told too late. */
    private static void seaInItsRowAlone() {
        ShoreDay day = day(1, 719, 9);
        day.shut(10, 12);
        day.shut(13, 13);
        day.shut(11, 12);
        to(day, 9);
        CHECK.yes("the MINUTE that was", day.shut(9, 9));
        day.group(0, 9, 0, 10, -1, 5);
        to(day, 10);
        states("the first", day, 0);
        to(day, 13);
        states("the last", day, 0);
        to(day, 14);
        states("open", day, 1);
        CHECK.yes("all that was", day.shut(1, 14));
        to(day, 15);
        states("goes on", day, 2);
        ShoreDay ahead = day(1, 719, 9);
        ahead.shut(2, 719);
        ahead.group(0, 9, 0, 0, -1, 5);
        to(ahead, 1);
        states("open ahead of the row", ahead, 1);
        to(ahead, 718);
        states("shut to the end of the day", ahead, 4);
        CHECK.same("since", ahead.look(0, 5), 7);
    }

    /** TENDERS on their way, TOURS, walks and SHIPS go on while it is shut. */
    private static void seaStopsTendersThatLieAlone() {
        ShoreDay day = new ShoreDay();
        day.ship(5, 719, 0);
        day.ship(5, 60, 0);
        day.tender(0, 20);
        day.tender(1, 20);
        day.tour(8, 10, 9, 0);
        day.group(0, 9, 0, 0, 0, 0);
        day.group(0, 9, 1, 0, -1, 4);
        day.group(1, 9, 0, 0, -1, 50);
        day.group(0, 9, 2, 0, -1, 4);
        day.shut(2, 100);
        to(day, 6);
        states("landed", day, 2, 2, 2, 0);
        to(day, 8);
        states("the tour begins", day, 3, 2, 2, 0);
        to(day, 10);
        states("the walk is over", day, 3, 4, 2, 0);
        to(day, 18);
        states("the tour is over", day, 4, 4, 2, 0);
        tender("lies at the quay, though one is aboard", day, 0, 2, 0, 0);
        to(day, 60);
        states("the ship sails", day, 4, 4, 6, 0);
        tender("of it", day, 1, 4, 0, 0);
        to(day, 101);
        states("open: all at the quay go, by the MINUTE since when", day, 1, 1, 6, 0);
        tender("with them", day, 0, 3, 5, 18);
    }

    private static void seaShutAllDay() {
        ShoreDay day = day(1, 719, 9);
        day.group(0, 9, 0, 0, -1, 5);
        day.shut(1, 719);
        to(day, 719);
        states("nobody went", day, 0);
        CHECK.same("nobody is left", day.guests(0, 4), 0);
        CHECK.same("sailed", day.guests(0, 5), 1);
    }

    /** All that there can be, in one MINUTE: 60 GROUPS of 60 land, have no seat, and come back. */
    private static void fullestMinute() {
        ShoreDay day = new ShoreDay();
        for (int i = 0; i < 4; i++) {
            day.ship(1, 719, i);
        }
        for (int i = 0; i < 6; i++) {
            day.tender(i % 4, 200);
        }
        for (int i = 0; i < 8; i++) {
            day.tour(100, 300, 200, i);
        }
        for (int i = 0; i < 60; i++) {
            day.group(i % 4, 60, 999 - i, 0, i % 8, 0);
        }
        Check.read(day, "fee 999 when landed < 3600;");
        to(day, 99);
        CHECK.same("all landed", day.count(7), 3600);
        CHECK.same("all in town", day.count(5), 3600);
        CHECK.same("all paid", day.count(6), 3600 * 999);
        to(day, 100);
        for (int tour = 0; tour < 8; tour++) {
            CHECK.same("on tour " + tour, day.rides(tour, 0), 180);
            CHECK.same("seats left", day.rides(tour, 1), 20);
        }
        CHECK.same("the highest number has the lowest ticket", day.look(59, 0), 3);
        CHECK.same("the lowest number has the highest ticket", day.look(0, 0), 2);
        to(day, 719);
        for (int ship = 0; ship < 4; ship++) {
            CHECK.same("all of ship " + ship, day.guests(ship, 3), 900);
            CHECK.same("none left", day.guests(ship, 4), 0);
        }
    }
}
