/** Section 2 of the terms with as many of everything as there can be: the last of each has the day that the first has. */
public final class FullDayTest {
    private static final Check CHECK = new Check("FullDayTest");

    public static void main(String[] args) {
        shipsThatSailTogether();
        toursThatBeginTogether();
        tendersThatGoTogether();
        lastTenderInTheTown();
        lastGroupsDay();
        lastGroupIsLeft();
        lastAtTheQuay();
        groupsOfAllTickets();
        lastMinutesOfTheDay();
        CHECK.end();
    }

    private static void states(String when, ShoreDay day, int from, int to, int due) {
        for (int i = from; i < to; i++) {
            CHECK.same(when + " in " + day.count(4) + ": group " + i, day.look(i, 0), due);
        }
    }

    private static void places(String when, ShoreDay day, int from, int to, int due) {
        for (int i = from; i < to; i++) {
            CHECK.same(when + " in " + day.count(4) + ": tender " + i, day.lies(i, 0), due);
        }
    }

    private static void shipsThatSailTogether() {
        ShoreDay day = new ShoreDay();
        for (int i = 0; i < 4; i++) {
            day.ship(1, 60, 0);
            day.tender(i, 9);
            day.group(i, 1 + i, 0, 0, -1, 600);
        }
        day.minutes(59);
        states("walks", day, 0, 4, 2);
        day.minutes(1);
        states("left", day, 0, 4, 6);
        places("goes no more", day, 0, 4, 4);
        for (int i = 0; i < 4; i++) {
            CHECK.same("sailed, " + i, day.guests(i, 5), 1);
            CHECK.same("guests left, " + i, day.guests(i, 4), 1 + i);
        }
    }

    private static void toursThatBeginTogether() {
        ShoreDay day = new ShoreDay();
        day.ship(1, 719, 0);
        day.tender(0, 200);
        for (int i = 0; i < 8; i++) {
            day.tour(10, 5 + i, 1 + i, 0);
            day.group(0, 1 + i, 0, 0, i, 0);
            day.group(0, 1, 1, 0, i, 0);
        }
        day.minutes(10);
        for (int i = 0; i < 8; i++) {
            CHECK.same("on tour " + i, day.look(2 * i, 0), 3);
            CHECK.same("no seat on tour " + i, day.look(2 * i + 1, 0), 2);
            CHECK.same("guests on tour " + i, day.rides(i, 0), 1 + i);
            CHECK.same("seats left on tour " + i, day.rides(i, 1), 0);
        }
        day.shut(11, 100);
        day.minutes(90);
        for (int i = 0; i < 8; i++) {
            CHECK.same("since the end of tour " + i, day.look(2 * i, 5), 15 + i);
            CHECK.same("since 60 from then on, " + i, day.look(2 * i + 1, 5), 70);
        }
    }

    private static void tendersThatGoTogether() {
        ShoreDay day = new ShoreDay();
        day.ship(5, 719, 0);
        for (int i = 0; i < 6; i++) {
            day.tender(0, 1);
            day.group(0, 1, i, 0, -1, 5);
        }
        day.minutes(1);
        for (int i = 0; i < 6; i++) {
            CHECK.same("the tender of group " + i, day.look(i, 1), i);
        }
        places("on the way ashore", day, 0, 6, 1);
        day.minutes(5);
        places("at the quay", day, 0, 6, 2);
        states("ashore", day, 0, 6, 2);
        day.minutes(5);
        places("on the way back", day, 0, 6, 3);
        for (int i = 0; i < 6; i++) {
            CHECK.same("the tender back of group " + i, day.look(i, 1), i);
        }
        day.minutes(5);
        places("at the ship", day, 0, 6, 0);
        states("back", day, 0, 6, 5);
    }

    /** Who is in the last TENDER on the way ashore has a place in THE TOWN, ahead of who would get in the first. */
    private static void lastTenderInTheTown() {
        ShoreDay day = new ShoreDay();
        day.holds(1);
        day.ship(10, 719, 0);
        day.ship(1, 719, 0);
        for (int i = 0; i < 5; i++) {
            day.tender(1, 9);
        }
        day.tender(0, 9);
        day.group(0, 1, 9, 0, -1, 600);
        day.group(1, 1, 0, 2, -1, 600);
        day.minutes(1);
        CHECK.same("the last tender goes", day.lies(5, 0), 1);
        day.minutes(9);
        CHECK.same("no place in town while it comes", day.look(1, 0), 0);
        day.minutes(1);
        CHECK.same("landed", day.look(0, 0), 2);
        CHECK.same("nor behind that", day.look(1, 0), 0);
        day.holds(2);
        day.minutes(1);
        CHECK.same("with a place in town", day.look(1, 1), 0);
    }

    /** 59 GROUPS of SHIP 1, which has no TENDER, and GROUP 59 of SHIP 0. */
    private static ShoreDay dayOfTheLastGroup(int from, int tour, int walk) {
        ShoreDay day = new ShoreDay();
        day.ship(5, 60, 0);
        day.ship(5, 719, 0);
        day.tender(0, 60);
        day.tour(20, 10, 60, 0);
        for (int i = 0; i < 59; i++) {
            day.group(1, 60, 0, 0, -1, 1);
        }
        CHECK.same("the last group", day.group(0, 60, 999, from, tour, walk), 59);
        return day;
    }

    private static void lastGroupsDay() {
        ShoreDay day = dayOfTheLastGroup(3, 0, 0);
        day.minutes(2);
        CHECK.same("its minute has not come", day.look(59, 0), 0);
        day.minutes(1);
        CHECK.same("in the tender", day.look(59, 1), 0);
        day.minutes(5);
        CHECK.same("ashore", day.look(59, 0), 2);
        CHECK.same("landed", day.look(59, 2), 8);
        CHECK.same("in town", day.count(5), 60);
        CHECK.same("ashore, of its ship", day.guests(0, 2), 60);
        day.minutes(12);
        CHECK.same("on the tour", day.look(59, 0), 3);
        day.minutes(10);
        CHECK.same("in the tender that waited", day.look(59, 1), 0);
        day.minutes(5);
        CHECK.same("back", day.look(59, 3), 35);
        day.minutes(25);
        CHECK.same("back for good", day.look(59, 0), 5);
        states("of the other ship", day, 0, 59, 0);
    }

    private static void lastGroupIsLeft() {
        ShoreDay day = dayOfTheLastGroup(0, -1, 600);
        day.minutes(60);
        CHECK.same("left as it walks", day.look(59, 0), 6);
        day = dayOfTheLastGroup(58, -1, 600);
        day.minutes(60);
        CHECK.same("left in the tender", day.look(59, 0), 6);
        day = dayOfTheLastGroup(0, -1, 10);
        day.shut(10, 60);
        day.minutes(60);
        CHECK.same("left at the quay", day.look(59, 0), 6);
        CHECK.same("guests left", day.guests(0, 4), 60);
    }

    /** 59 come to the QUAY and go back; the TENDER comes again for the last of all, as it came again to fetch it. */
    private static void lastAtTheQuay() {
        ShoreDay day = new ShoreDay();
        day.ship(1, 719, 0);
        day.tender(0, 59);
        for (int i = 0; i < 59; i++) {
            day.group(0, 1, 0, 0, -1, 10);
        }
        day.group(0, 1, 0, 4, -1, 20);
        day.minutes(3);
        CHECK.same("lies at the quay", day.lies(0, 0), 2);
        day.minutes(1);
        CHECK.same("goes back for the last", day.lies(0, 0), 3);
        day.minutes(1);
        CHECK.same("fetches it", day.look(59, 0), 1);
        day.minutes(1);
        CHECK.same("landed", day.look(59, 2), 6);
        day.minutes(6);
        CHECK.same("59 in the tender", day.lies(0, 2), 59);
        day.minutes(13);
        CHECK.same("lies at the ship", day.lies(0, 0), 0);
        day.minutes(1);
        CHECK.same("the last is at the quay", day.look(59, 5), 26);
        CHECK.same("goes for it", day.lies(0, 0), 1);
        day.minutes(1);
        CHECK.same("takes it", day.lies(0, 2), 1);
        day.minutes(1);
        states("back", day, 0, 60, 5);
        CHECK.same("guests back", day.guests(0, 3), 60);
    }

    /** Tickets that fall: the last number goes first, one a trip. */
    private static void groupsOfAllTickets() {
        ShoreDay day = new ShoreDay();
        day.ship(1, 719, 0);
        day.tender(0, 1);
        for (int i = 0; i < 60; i++) {
            day.group(0, 1, 999 - 7 * i, 0, -1, 600);
        }
        for (int trip = 0; trip < 60; trip++) {
            day.minutes(trip == 0 ? 1 : 2);
            CHECK.same("trip " + trip, day.look(59 - trip, 0), 1);
            CHECK.same("one a trip", day.lies(0, 2), 1);
        }
        day.minutes(1);
        CHECK.same("all landed", day.count(7), 60);
    }

    /** The SHIP sails in the day's last MINUTE: who comes to the QUAY one MINUTE ahead of it is BACK in it. */
    private static void lastMinutesOfTheDay() {
        ShoreDay day = new ShoreDay();
        day.ship(1, 719, 0);
        day.tender(0, 5);
        day.tender(0, 10);
        day.group(0, 5, 0, 600, -1, 116);
        day.group(0, 5, 0, 600, -1, 117);
        day.group(0, 5, 0, 600, -1, 118);
        for (int i = 0; i < 3; i++) {
            day.minutes(200);
        }
        day.minutes(118);
        CHECK.same("back one minute ahead", day.look(0, 3), 718);
        CHECK.same("on its way", day.look(1, 0), 1);
        CHECK.same("walks still", day.look(2, 0), 2);
        CHECK.same("not sailed", day.guests(0, 5), 0);
        day.group(0, 1, 0, 0, -1, 1);
        CHECK.same("one minute more", day.minutes(1), 719);
        CHECK.same("back in the last minute", day.look(1, 3), 719);
        CHECK.same("left", day.look(2, 0), 6);
        CHECK.same("sailed with those who are back", day.guests(0, 3), 10);
        CHECK.same("and with who was aboard", day.guests(0, 0), 1);
        CHECK.same("the day is over", day.minutes(1), -1);
        CHECK.same("at its last minute", day.count(4), 719);
    }
}
