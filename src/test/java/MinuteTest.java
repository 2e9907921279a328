/** Promise 8 and section 2 of the terms: what goes on in a MINUTE, with what promises 14 to 18 tell of it. */
public final class MinuteTest {
    private static final Check CHECK = new Check("MinuteTest");

    public static void main(String[] args) {
        limits();
        groupsOfOneTicket();
        laterFrom();
        roomSkipsLarger();
        emptyRuns();
        quayOrder();
        tourLandsInItsMinute();
        tourLandsTooLate();
        tourSeatsByTicket();
        tourOver();
        townAcrossShips();
        townAtItsEdge();
        townLaterRaised();
        sailingMinute();
        leftInTender();
        backInTheSailingMinute();
        seaShuts();
        twoTenders();
        tenderArrivesEmpty();
        CHECK.end();
    }

    private static void limits() {
        ShoreDay day = new ShoreDay();
        CHECK.same("minutes(-1)", day.minutes(-1), -1);
        CHECK.same("minutes(201)", day.minutes(201), -1);
        CHECK.same("minutes(MIN)", day.minutes(Integer.MIN_VALUE), -1);
        CHECK.same("minutes(MAX)", day.minutes(Integer.MAX_VALUE), -1);
        CHECK.same("NOW is as it was", day.count(4), 0);
        CHECK.same("minutes(200)", day.minutes(200), 200);
        CHECK.same("minutes(200)", day.minutes(200), 400);
        CHECK.same("minutes(200)", day.minutes(200), 600);
        CHECK.same("beyond 719", day.minutes(120), -1);
        CHECK.same("NOW is as it was", day.count(4), 600);
        CHECK.same("up to 719", day.minutes(119), 719);
        CHECK.same("beyond 719", day.minutes(1), -1);
        CHECK.same("minutes(0)", day.minutes(0), 719);
    }

    private static void groupsOfOneTicket() {
        ShoreDay day = new ShoreDay();
        day.ship(5, 700, 0);
        day.tender(0, 10);
        day.group(0, 6, 7, 0, -1, 50);
        day.group(0, 6, 3, 0, -1, 50);
        day.group(0, 4, 7, 0, -1, 50);
        day.group(0, 4, 3, 0, -1, 50);
        day.minutes(1);
        CHECK.same("ticket 7", day.look(0, 0), 0);
        CHECK.same("ticket 3, number 1", day.look(1, 0), 1);
        CHECK.same("ticket 7", day.look(2, 0), 0);
        CHECK.same("ticket 3, number 3", day.look(3, 0), 1);
        CHECK.same("guests in it", day.lies(0, 2), 10);
        CHECK.same("in tenders", day.guests(0, 1), 10);
        CHECK.same("aboard", day.guests(0, 0), 10);
    }

    private static void laterFrom() {
        ShoreDay day = new ShoreDay();
        day.ship(5, 700, 0);
        day.tender(0, 10);
        day.group(0, 6, 7, 4, -1, 50);
        day.minutes(3);
        CHECK.same("its MINUTE has not come", day.look(0, 0), 0);
        CHECK.same("the tender lies", day.lies(0, 0), 0);
        day.minutes(1);
        CHECK.same("its MINUTE has come", day.look(0, 0), 1);
        CHECK.same("its tender", day.look(0, 1), 0);
        CHECK.same("MINUTES left", day.lies(0, 1), 5);
        day.minutes(4);
        CHECK.same("MINUTES left", day.lies(0, 1), 1);
        CHECK.same("not landed", day.look(0, 2), -1);
        CHECK.same("nobody landed", day.count(7), 0);
        day.minutes(1);
        CHECK.same("landed in", day.look(0, 2), 9);
        CHECK.same("at the quay", day.lies(0, 0), 2);
        CHECK.same("no MINUTES left", day.lies(0, 1), 0);
        CHECK.same("out of the tender", day.look(0, 1), -1);
        CHECK.same("landed guests", day.count(7), 6);
        CHECK.same("in the town", day.count(5), 6);
        CHECK.same("ashore", day.guests(0, 2), 6);
    }

    private static void roomSkipsLarger() {
        ShoreDay day = new ShoreDay();
        day.ship(5, 700, 0);
        day.tender(0, 10);
        day.group(0, 11, 0, 0, -1, 50);
        day.group(0, 8, 1, 0, -1, 50);
        day.group(0, 3, 2, 0, -1, 50);
        day.group(0, 2, 3, 0, -1, 50);
        day.minutes(1);
        CHECK.same("never fits", day.look(0, 0), 0);
        CHECK.same("fits", day.look(1, 0), 1);
        CHECK.same("does not fit any more", day.look(2, 0), 0);
        CHECK.same("fits to the last", day.look(3, 0), 1);
    }

    /** An empty TENDER goes to fetch, and lies where there is nobody to fetch on the other side. */
    private static void emptyRuns() {
        ShoreDay day = new ShoreDay();
        day.ship(3, 700, 0);
        day.ship(3, 700, 0);
        day.tender(0, 10);
        day.group(0, 5, 0, 0, -1, 20);
        day.group(0, 5, 0, 10, -1, 20);
        day.group(1, 5, 0, 0, -1, 20);
        day.minutes(4);
        CHECK.same("lies: nobody of its ship waits aboard", day.lies(0, 0), 2);
        day.minutes(5);
        CHECK.same("lies still", day.lies(0, 0), 2);
        day.minutes(1);
        CHECK.same("goes back for the one whose MINUTE has come", day.lies(0, 0), 3);
        CHECK.same("empty", day.lies(0, 2), 0);
        day.minutes(3);
        CHECK.same("takes it at 13", day.look(1, 0), 1);
        CHECK.same("on the way ashore", day.lies(0, 0), 1);
        day.minutes(3);
        CHECK.same("landed", day.look(1, 2), 16);
        CHECK.same("another ship's group has no tender", day.look(2, 0), 0);
        CHECK.same("lies for its own ship alone", day.lies(0, 0), 2);
    }

    /** Who came to the QUAY first goes first, of one MINUTE by numbers, whatever the tickets. */
    private static void quayOrder() {
        ShoreDay day = new ShoreDay();
        day.ship(2, 700, 0);
        day.tender(0, 12);
        day.group(0, 3, 0, 0, -1, 7);
        day.group(0, 3, 1, 0, -1, 6);
        day.group(0, 3, 3, 0, -1, 6);
        day.group(0, 3, 2, 0, -1, 6);
        day.shut(4, 12);
        day.minutes(3);
        CHECK.same("all landed in 3", day.count(7), 12);
        day.minutes(9);
        CHECK.same("since when, 0", day.look(0, 5), 10);
        CHECK.same("since when, 1", day.look(1, 5), 9);
        CHECK.same("since when, 2", day.look(2, 5), 9);
        CHECK.same("since when, 3", day.look(3, 5), 9);
        CHECK.same("at the quay", day.look(0, 0), 4);
        CHECK.same("the tender waits for the sea", day.lies(0, 0), 2);
        day.minutes(1);
        CHECK.same("all are in it", day.lies(0, 2), 12);
        CHECK.same("not at the quay any more", day.look(0, 5), -1);
        day.minutes(2);
        CHECK.same("back", day.look(3, 0), 5);
        CHECK.same("back in", day.look(3, 3), 15);
        CHECK.same("back in all", day.guests(0, 3), 12);
        CHECK.same("nobody in town", day.count(5), 0);
        quayOrderWithLittleRoom();
        quaySkipsLarger();
    }

    private static void quayOrderWithLittleRoom() {
        ShoreDay day = new ShoreDay();
        day.ship(2, 700, 0);
        day.tender(0, 3);
        day.tender(0, 3);
        day.tender(0, 3);
        day.group(0, 3, 0, 0, -1, 7);
        day.group(0, 3, 2, 0, -1, 6);
        day.group(0, 3, 1, 0, -1, 6);
        day.shut(4, 12);
        day.minutes(13);
        CHECK.same("the second comer's tender", day.look(0, 1), 2);
        CHECK.same("first comer, lower number", day.look(1, 1), 0);
        CHECK.same("first comer, higher number", day.look(2, 1), 1);
    }

    /** The one that is there first is too large for the TENDER that is filled first; the one behind it is not. */
    private static void quaySkipsLarger() {
        ShoreDay day = new ShoreDay();
        day.ship(2, 700, 0);
        day.tender(0, 4);
        day.tender(0, 9);
        day.group(0, 9, 0, 0, -1, 3);
        day.group(0, 4, 1, 0, -1, 4);
        day.shut(4, 7);
        day.minutes(7);
        CHECK.same("the larger is there first", day.look(0, 5), 6);
        CHECK.same("the smaller is behind it", day.look(1, 5), 7);
        day.minutes(1);
        CHECK.same("the larger's tender", day.look(0, 1), 1);
        CHECK.same("the smaller's tender", day.look(1, 1), 0);
    }

    private static void tourLandsInItsMinute() {
        ShoreDay day = new ShoreDay();
        day.ship(5, 700, 0);
        day.tender(0, 50);
        day.tour(6, 10, 5, 0);
        day.group(0, 5, 9, 0, 0, 0);
        day.group(0, 5, 8, 0, 0, 0);
        day.minutes(6);
        CHECK.same("seats by ticket", day.look(1, 0), 3);
        CHECK.same("no seat left", day.look(0, 0), 2);
        CHECK.same("it began", day.rides(0, 2), 1);
        day.minutes(10);
        CHECK.same("tour over", day.look(1, 2), 6);
        CHECK.same("left the quay at once", day.look(1, 0), 1);
        day.minutes(49);
        CHECK.same("walks till 66", day.look(0, 0), 2);
        day.minutes(1);
        CHECK.same("at the quay in 66", day.look(0, 5), 66);
    }

    private static void tourLandsTooLate() {
        ShoreDay day = new ShoreDay();
        day.ship(5, 700, 0);
        day.tender(0, 50);
        day.tour(5, 10, 5, 0);
        day.group(0, 5, 9, 0, 0, 3);
        day.shut(66, 66);
        day.minutes(6);
        CHECK.same("nobody on it", day.rides(0, 0), 0);
        CHECK.same("all seats left", day.rides(0, 1), 5);
        day.minutes(59);
        CHECK.same("walks 60 from 6, whatever walk was told", day.look(0, 0), 2);
        day.minutes(1);
        CHECK.same("at the quay", day.look(0, 0), 4);
        CHECK.same("since", day.look(0, 5), 66);
    }

    private static void tourSeatsByTicket() {
        ShoreDay day = new ShoreDay();
        day.ship(5, 700, 0);
        day.tender(0, 50);
        day.tour(30, 10, 10, 0);
        day.tour(30, 20, 3, 0);
        day.group(0, 7, 5, 0, 0, 0);
        day.group(0, 4, 5, 0, 0, 0);
        day.group(0, 3, 6, 0, 0, 0);
        day.group(0, 3, 9, 0, 1, 0);
        day.group(0, 1, 0, 0, -1, 40);
        day.minutes(29);
        CHECK.same("waits ashore", day.look(0, 0), 2);
        CHECK.same("not begun", day.rides(0, 2), 0);
        CHECK.same("all seats left", day.rides(0, 1), 10);
        day.minutes(1);
        CHECK.same("of one ticket the lower number", day.look(0, 0), 3);
        CHECK.same("finds no seats", day.look(1, 0), 2);
        CHECK.same("later ticket that fits", day.look(2, 0), 3);
        CHECK.same("the other tour", day.look(3, 0), 3);
        CHECK.same("walks", day.look(4, 0), 2);
        CHECK.same("on tour 0", day.rides(0, 0), 10);
        CHECK.same("seats left of tour 0", day.rides(0, 1), 0);
        CHECK.same("on tour 1", day.rides(1, 0), 3);
        CHECK.same("all are in town", day.count(5), 18);
        CHECK.same("of the ship", day.guests(0, 2), 18);
        CHECK.same("rides of another what", day.rides(0, 3), -1);
        CHECK.same("rides of another what", day.rides(0, -1), -1);
        CHECK.same("rides of another tour", day.rides(2, 0), -1);
        CHECK.same("rides of another tour", day.rides(-1, 0), -1);
    }

    private static void tourOver() {
        ShoreDay day = new ShoreDay();
        day.ship(5, 700, 0);
        day.tender(0, 50);
        day.tour(10, 300, 10, 0);
        day.group(0, 7, 5, 0, 0, 0);
        day.shut(310, 320);
        day.minutes(200);
        day.minutes(109);
        CHECK.same("on the tour in 309", day.look(0, 0), 3);
        day.minutes(1);
        CHECK.same("at the quay in 310", day.look(0, 0), 4);
        CHECK.same("guests that were on it", day.rides(0, 0), 7);
        CHECK.same("seats stay taken", day.rides(0, 1), 3);
    }

    private static void townAcrossShips() {
        ShoreDay day = new ShoreDay();
        day.holds(20);
        day.ship(5, 700, 0);
        day.ship(9, 700, 0);
        day.tender(1, 50);
        day.tender(0, 50);
        day.group(0, 10, 0, 0, -1, 30);
        day.group(1, 6, 1, 0, -1, 30);
        day.group(1, 5, 0, 0, -1, 30);
        day.minutes(1);
        CHECK.same("tender 0 loads first", day.lies(0, 2), 11);
        CHECK.same("the other ship's group finds the town full", day.look(0, 0), 0);
        CHECK.same("its tender lies", day.lies(1, 0), 0);
        day.minutes(39);
        CHECK.same("11 are at the quay in 40, and go at once", day.lies(0, 0), 3);
        CHECK.same("whom tender 0 took is no more for the town", day.look(0, 0), 1);
        CHECK.same("in town", day.count(5), 0);
    }

    private static void townAtItsEdge() {
        ShoreDay day = new ShoreDay();
        day.holds(10);
        day.ship(5, 700, 0);
        day.tender(0, 50);
        day.group(0, 6, 0, 0, -1, 30);
        day.group(0, 5, 1, 0, -1, 30);
        day.group(0, 4, 2, 0, -1, 30);
        day.minutes(1);
        CHECK.same("first", day.look(0, 0), 1);
        CHECK.same("11 would be too many", day.look(1, 0), 0);
        CHECK.same("10 are held", day.look(2, 0), 1);
    }

    /** A TOWN that holds less than are there takes nobody; raised again, it does. */
    private static void townLaterRaised() {
        ShoreDay day = new ShoreDay();
        day.ship(5, 700, 0);
        day.tender(0, 5);
        day.tender(0, 5);
        day.group(0, 5, 0, 0, -1, 600);
        day.group(0, 5, 1, 3, -1, 600);
        day.minutes(2);
        day.holds(1);
        day.minutes(10);
        CHECK.same("nobody more", day.look(1, 0), 0);
        CHECK.no("another number changes nothing", day.holds(0));
        day.holds(9);
        day.minutes(1);
        CHECK.same("one too few", day.look(1, 0), 0);
        day.holds(10);
        day.minutes(1);
        CHECK.same("held", day.look(1, 0), 1);
    }

    private static void sailingMinute() {
        ShoreDay day = new ShoreDay();
        day.ship(5, 60, 0);
        day.ship(5, 61, 0);
        day.tender(0, 50);
        day.tender(1, 50);
        day.tour(50, 100, 10, 0);
        day.group(0, 7, 0, 0, 0, 0);
        day.group(0, 3, 0, 0, -1, 54);
        day.group(0, 2, 0, 61, -1, 54);
        day.group(0, 4, 0, 0, -1, 200);
        day.group(1, 1, 0, 0, -1, 200);
        day.group(0, 1, 0, 60, -1, 200);
        day.minutes(59);
        CHECK.same("not sailed", day.guests(0, 5), 0);
        CHECK.same("on the tour", day.look(0, 0), 3);
        day.minutes(1);
        CHECK.same("sailed", day.guests(0, 5), 1);
        CHECK.same("the other has not", day.guests(1, 5), 0);
        CHECK.same("left from the tour", day.look(0, 0), 6);
        CHECK.same("left from the quay", day.look(1, 0), 6);
        CHECK.same("not at the quay", day.look(1, 5), -1);
        CHECK.same("stays aboard", day.look(2, 0), 0);
        CHECK.same("left from a walk", day.look(3, 0), 6);
        CHECK.same("nobody gets in any more", day.look(5, 0), 0);
        CHECK.same("the other's walks", day.look(4, 0), 2);
        CHECK.same("left", day.guests(0, 4), 14);
        CHECK.same("aboard", day.guests(0, 0), 3);
        CHECK.same("in town", day.count(5), 1);
        CHECK.same("goes no more", day.lies(0, 0), 4);
        CHECK.same("the other's tender", day.lies(1, 0), 2);
        CHECK.same("landed in is kept", day.look(0, 2), 6);
        CHECK.same("never back", day.look(0, 3), -1);
        CHECK.same("seats stay taken", day.rides(0, 1), 3);
        day.minutes(200);
        CHECK.same("left for good", day.look(0, 0), 6);
        CHECK.same("left for good", day.guests(0, 4), 14);
    }

    private static void leftInTender() {
        ShoreDay day = new ShoreDay();
        day.ship(60, 100, 0);
        day.tender(0, 50);
        day.group(0, 7, 0, 41, -1, 20);
        day.minutes(99);
        CHECK.same("in the tender", day.look(0, 0), 1);
        CHECK.same("MINUTES left", day.lies(0, 1), 2);
        day.minutes(1);
        CHECK.same("left", day.look(0, 0), 6);
        CHECK.same("in no tender", day.look(0, 1), -1);
        CHECK.same("goes no more", day.lies(0, 0), 4);
        CHECK.same("no MINUTES left", day.lies(0, 1), 0);
        CHECK.same("nobody in it", day.lies(0, 2), 0);
        CHECK.same("none in tenders", day.guests(0, 1), 0);
        day.minutes(10);
        CHECK.same("never landed", day.look(0, 2), -1);
        CHECK.same("nobody landed", day.count(7), 0);
    }

    private static void backInTheSailingMinute() {
        ShoreDay day = new ShoreDay();
        day.ship(10, 60, 0);
        day.tender(0, 50);
        day.group(0, 7, 0, 0, -1, 39);
        day.minutes(50);
        CHECK.same("on the way back in 50", day.lies(0, 0), 3);
        day.minutes(10);
        CHECK.same("back in 60, ahead of sailing", day.look(0, 0), 5);
        CHECK.same("in", day.look(0, 3), 60);
        CHECK.same("none left", day.guests(0, 4), 0);
        CHECK.same("goes no more", day.lies(0, 0), 4);
    }

    private static void seaShuts() {
        ShoreDay day = new ShoreDay();
        day.ship(5, 700, 0);
        day.tender(0, 50);
        day.group(0, 7, 0, 0, -1, 2);
        day.shut(2, 3);
        day.shut(4, 10);
        day.minutes(1);
        CHECK.same("open in 1", day.look(0, 0), 1);
        day.minutes(5);
        CHECK.same("one on its way goes on", day.look(0, 0), 2);
        day.minutes(4);
        CHECK.same("lies in 10, the row's last", day.lies(0, 0), 2);
        CHECK.same("waits at the quay", day.look(0, 5), 8);
        day.minutes(1);
        CHECK.same("goes in 11", day.lies(0, 0), 3);
        ShoreDay other = new ShoreDay();
        other.ship(5, 700, 0);
        other.tender(0, 50);
        other.group(0, 7, 0, 0, -1, 2);
        other.shut(1, 1);
        other.minutes(1);
        CHECK.same("shut in 1, the row's first and last", other.look(0, 0), 0);
        other.minutes(1);
        CHECK.same("open in 2", other.look(0, 0), 1);
    }

    private static void twoTenders() {
        ShoreDay day = new ShoreDay();
        day.ship(5, 700, 0);
        day.tender(0, 4);
        day.tender(0, 9);
        day.group(0, 5, 0, 0, -1, 20);
        day.group(0, 4, 1, 0, -1, 20);
        day.group(0, 4, 2, 0, -1, 20);
        day.minutes(1);
        CHECK.same("too many for tender 0", day.look(0, 1), 1);
        CHECK.same("tender 0", day.look(1, 1), 0);
        CHECK.same("tender 1", day.look(2, 1), 1);
        CHECK.same("load of 0", day.lies(0, 2), 4);
        CHECK.same("load of 1", day.lies(1, 2), 9);
        day.minutes(5);
        CHECK.same("both land", day.count(7), 13);
        CHECK.same("nobody to fetch", day.lies(0, 0), 2);
        CHECK.same("lies of another what", day.lies(0, 3), -1);
        CHECK.same("lies of another what", day.lies(0, -1), -1);
        CHECK.same("lies of another tender", day.lies(2, 0), -1);
        CHECK.same("lies of another tender", day.lies(-1, 0), -1);
    }

    /** The quay is looked at when a TENDER's turn comes: what one took is gone for the next. */
    private static void tenderArrivesEmpty() {
        ShoreDay day = new ShoreDay();
        day.ship(5, 700, 0);
        day.tender(0, 4);
        day.group(0, 4, 0, 0, -1, 20);
        day.minutes(6);
        CHECK.same("a tender more, at the ship", day.tender(0, 4), 1);
        day.minutes(20);
        CHECK.same("tender 0 took the group in 26", day.look(0, 1), 0);
        CHECK.same("tender 1 has no reason to go", day.lies(1, 0), 0);
        ShoreDay other = new ShoreDay();
        other.ship(5, 700, 0);
        other.tender(0, 3);
        other.tender(0, 4);
        other.group(0, 4, 0, 0, -1, 20);
        other.minutes(26);
        CHECK.same("tender 0 went to look ahead of tender 1", other.lies(0, 0), 1);
        CHECK.same("tender 1 took the group", other.look(0, 1), 1);
    }
}
