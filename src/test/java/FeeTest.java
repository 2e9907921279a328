/** Promises 9 and 10 and section 3 of the terms: the TAPE, the TEXT, its FAULTS, and what a GROUP pays. */
public final class FeeTest {
    private static final Check CHECK = new Check("FeeTest");

    public static void main(String[] args) {
        signsThatCount();
        tapeIsFull();
        tapeIsTaken();
        goodTexts();
        faultsOfTokens();
        faultsOfFees();
        faultsOfLines();
        faultsOfDepth();
        faultKeepsTheText();
        values();
        words();
        firstLineThatHolds();
        landedAhead();
        deepest();
        longest();
        manyTexts();
        CHECK.end();
    }

    private static void signsThatCount() {
        for (int sign = 0; sign < 256; sign++) {
            ShoreDay day = new ShoreDay();
            int due = sign == 10 || sign >= 32 && sign <= 126 ? 3 : 0;
            long high = (long) sign << 56;
            CHECK.same("feed of " + sign, day.feed(high, (long) sign << 24, sign), due);
            CHECK.same("count(9)", day.count(9), due);
        }
        ShoreDay day = new ShoreDay();
        CHECK.same("three zeros", day.feed(0, 0, 0), 0);
        CHECK.same("three times -1", day.feed(-1, -1, -1), 0);
        CHECK.same("the highest byte first", day.feed(0x6665652030207768L, 0x656e20313b000000L, 0), 13);
        CHECK.same("fee 0 when 1;", day.text(), 0);
    }

    private static void tapeIsFull() {
        ShoreDay day = new ShoreDay();
        long blanks = 0x2020202020202020L;
        for (int i = 1; i <= 25; i++) {
            CHECK.same("feed " + i, day.feed(blanks, blanks, blanks), 24 * i);
        }
        CHECK.same("what is beyond 600 is left out", day.feed(blanks, 0x6665652030207768L, blanks), 600);
        CHECK.same("count(9)", day.count(9), 600);
        CHECK.same("600 blanks are a text without a line", day.text(), 0);
        Check.feed(day, " ".repeat(596));
        CHECK.same("feed over the edge", Check.feed(day, "fee 5"), 600);
        CHECK.same("the fault is at the end: 'fee ' is there", day.text(), 1 + 16 * 600);
    }

    private static void tapeIsTaken() {
        ShoreDay day = new ShoreDay();
        Check.feed(day, "fee 3 when");
        Check.feed(day, " 1;");
        CHECK.same("fed twice", day.text(), 0);
        CHECK.same("taken", day.count(9), 0);
        CHECK.same("one line", day.count(8), 1);
        CHECK.same("a faulty one", Check.read(day, "fee"), 1 + 16 * 3);
        CHECK.same("taken, too", day.count(9), 0);
        CHECK.same("an empty tape is a text without a line", day.text(), 0);
        CHECK.same("no line", day.count(8), 0);
    }

    private static void good(String text, int lines) {
        ShoreDay day = new ShoreDay();
        CHECK.same("text " + text, Check.read(day, text), 0);
        CHECK.same("lines of " + text, day.count(8), lines);
    }

    private static void goodTexts() {
        good("", 0);
        good(" \n ", 0);
        good("fee 0 when 0;", 1);
        good("fee 999 when 9999;", 1);
        good("fee 0999 when 0000;", 1);
        good("fee5when1;fee6when(tour);", 2);
        good("\nfee\n5\nwhen\nguests\n;\n", 1);
        good("fee 1 when guests+tour-hour<rank=0;".replace("=0", ""), 1);
        good("fee 1 when 1 and 2 and 3 < 4 and 5 = 6;", 1);
        good("fee 1 when (1 and 2) + (3 < 4) = (landed);", 1);
        good("fee 1 when ((((1))));", 1);
        good("fee 1 when ((((1)))) and ((((ship))));", 1);
        good("fee 1 when 1and 2;", 1);
        good("fee 1 when(1)and(2);", 1);
        good("fee 1 when 1+1-1+1-1<1+1;", 1);
        good("fee 1 when 1; ".repeat(16), 16);
    }

    private static void fault(String text, int kind, int place) {
        ShoreDay day = new ShoreDay();
        CHECK.same("fault of " + text, Check.read(day, text), kind + 16 * place);
        CHECK.same("the tape is empty", day.count(9), 0);
    }

    private static void faultsOfTokens() {
        fault("x", 1, 0);
        fault("  5", 1, 2);
        fault(";", 1, 0);
        fault("Fee 1 when 1;", 1, 0);
        fault("fees 1 when 1;", 1, 0);
        for (char letter = 'a'; letter <= 'z'; letter++) {
            fault("fee" + letter + " 1 when 1;", 1, 0);
        }
        fault("fee{", 1, 3);
        fault("fee`", 1, 3);
        fault("fee 1/", 1, 5);
        fault("fee 1:", 1, 5);
        for (String sign : new String[] {"(", ";", "1;", "a1", "~"}) {
            fault(sign.repeat(600 / sign.length()), 1, 0);
        }
        fault("fee", 1, 3);
        fault("fee  ", 1, 5);
        fault("fee when", 1, 4);
        fault("fee (1) when 1;", 1, 4);
        fault("fee 1 1;", 1, 6);
        fault("fee 1whenx 1;", 1, 5);
        fault("fee 1 when", 1, 10);
        fault("fee 1 when ;", 1, 11);
        fault("fee 1 when )", 1, 11);
        fault("fee 1 when fee;", 1, 11);
        fault("fee 1 when guest;", 1, 11);
        fault("fee 1 when guestss;", 1, 11);
        fault("fee 1 when guestsguests;", 1, 11);
        fault("fee 1 when abcdefgh;", 1, 11);
        fault("fee 1 when -1;", 1, 11);
        fault("fee 1 when 1 2;", 1, 13);
        fault("fee 1 when 12345;", 1, 11);
        fault("fee 1 when 00001;", 1, 11);
        fault("fee 1 when " + "9".repeat(400) + ";", 1, 11);
        fault("fee " + "0".repeat(5) + " when 1;", 1, 4);
        fault("fee 1 when 1 < 2 < 3;", 1, 17);
        fault("fee 1 when 1 = 2 < 3;", 1, 17);
        fault("fee 1 when 1 and;", 1, 16);
        fault("fee 1 when and 1;", 1, 11);
        fault("fee 1 when 1 +;", 1, 14);
        fault("fee 1 when 1 <;", 1, 14);
        fault("fee 1 when 1 + < 2;", 1, 15);
        fault("fee 1 when (1;", 1, 13);
        fault("fee 1 when (1", 1, 13);
        fault("fee 1 when 1);", 1, 12);
        fault("fee 1 when ();", 1, 12);
        fault("fee 1 when (1 < 2 < 3);", 1, 18);
        fault("fee 1 when 1 > 2;", 1, 13);
        fault("fee 1 when 1 * 2;", 1, 13);
        fault("fee 1 when 1, fee 2 when 1;", 1, 12);
        fault("fee 1 when Tour;", 1, 11);
        fault("fee 1 when tour1;", 1, 15);
        fault("fee 1 when 1;;", 1, 13);
        fault("fee 1 when 1; x", 1, 14);
        fault("fee 1 when 1; fee 2 when ?", 1, 25);
    }

    private static void faultsOfFees() {
        fault("fee 1000 when 1;", 4, 4);
        fault("fee 9999 when 1;", 4, 4);
        fault("fee 1000", 4, 4);
        fault("fee 10000 when 1;", 1, 4);
        fault("fee 1 when 1; fee 1000 when ;", 4, 18);
        fault("fee 1 when ?; fee 1000 when 1;", 1, 11);
    }

    private static void faultsOfLines() {
        String sixteen = "fee 1 when 1; ".repeat(16);
        fault(sixteen + "fee 1 when 1;", 5, 224);
        fault(sixteen + "fee", 5, 224);
        fault(sixteen + "  fee ?", 5, 226);
        fault(sixteen + "when", 1, 224);
        fault(sixteen + "?", 1, 224);
        fault(sixteen + "feefeefee", 1, 224);
        fault("fee 1 when 1; ".repeat(15) + "fee 1 when ?; fee 1 when 1;", 1, 221);
    }

    private static void faultsOfDepth() {
        fault("fee 1 when (((((1)))));", 5, 16);
        fault("fee 1 when ((((((1))))));", 5, 16);
        fault("fee 1 when (((((tour", 5, 16);
        fault("fee 1 when (((((", 1, 16);
        fault("fee 1 when (((((;", 1, 16);
        fault("fee 1 when (((((?", 1, 16);
        fault("fee 1 when (((((abc", 1, 16);
        fault("fee 1 when (((((12345", 1, 16);
        fault("fee 1 when ((((1 + (1", 5, 20);
        fault("fee 1 when ((((1)))) + (((((1", 5, 28);
        fault("fee 1 when " + "(".repeat(580), 5, 16);
    }

    /** The document does not say what becomes of the text there was; a FAULT is taken to leave it. */
    private static void faultKeepsTheText() {
        ShoreDay day = landing(3, 0, 0, 1);
        CHECK.same("a text", Check.read(day, "fee 7 when 1; fee 8 when 1;"), 0);
        CHECK.same("a faulty one", Check.read(day, "fee 9 when 1; fee 9 when 1; fee 9 when 1; fee"), 1 + 16 * 45);
        CHECK.same("lines", day.count(8), 2);
        day.minutes(2);
        CHECK.same("paid by the old one", day.look(0, 4), 21);
        CHECK.same("a text again", Check.read(day, "fee 9 when 1;"), 0);
        CHECK.same("lines", day.count(8), 1);
    }

    /** One GROUP that lands in 2, or later by its MINUTE. */
    private static ShoreDay landing(int guests, int rank, int from, int way) {
        ShoreDay day = new ShoreDay();
        day.ship(way, 719, rank);
        day.tender(0, 200);
        day.group(0, guests, 0, from, -1, 600);
        return day;
    }

    private static void value(String e, int due) {
        ShoreDay day = landing(1, 0, 0, 1);
        CHECK.same("text " + e, Check.read(day, "fee 1 when " + e + ";"), 0);
        day.minutes(2);
        CHECK.same(e + " is not 0", day.count(6), due);
    }

    private static void values() {
        value("0", 0);
        value("1", 1);
        value("9999", 1);
        value("1 - 1", 0);
        value("1 - 2", 1);
        value("5 - 3 - 2", 0);
        value("5 - (3 - 2)", 1);
        value("5 - (3 + 2)", 0);
        value("1 < 2", 1);
        value("2 < 2", 0);
        value("0 - 1 < 0", 1);
        value("2 = 2", 1);
        value("2 = 3", 0);
        value("(2 = 2) = 1", 1);
        value("(2 = 3) = 0", 1);
        value("2 and 4", 1);
        value("2 and 0", 0);
        value("0 and 2", 0);
        value("(2 and 4) = 1", 1);
        value("1 and 1 and 0", 0);
        value("1 and 0 and 1", 0);
        value("0 and 1 and 1", 0);
        value("(1 < 2) = 1", 1);
        value("(2 < 1) = 0", 1);
        value("1 + 1 < 1 + 2", 1);
        value("1 < 1 + 1", 1);
        value("1 = 0 + 1 and 3 - 2 = 1", 1);
        value("(3) = 3", 1);
        value("(1 < 2) + (3 < 4) = 2", 1);
        value("9999 + 9999 + 9999 = 9999 + 9999 + 9999", 1);
        value("0010 = 10", 1);
    }

    private static void words() {
        word("guests", 17, 17, 0, 0);
        word("guests", 60, 60, 0, 0);
        word("rank", 9, 1, 9, 0);
        word("rank", 0, 1, 0, 0);
        word("hour", 0, 1, 0, 58);
        word("hour", 1, 1, 0, 59);
        word("hour", 1, 1, 0, 118);
        word("hour", 2, 1, 0, 119);
        word("hour", 11, 1, 0, 700);
        word("tour", 0, 1, 0, 0);
        word("ship", 0, 1, 0, 0);
        word("landed", 0, 5, 0, 0);
        ShoreDay day = new ShoreDay();
        day.ship(1, 719, 4);
        day.ship(1, 719, 5);
        day.tour(1, 5, 5, 0);
        day.tender(1, 200);
        day.group(1, 3, 0, 0, 0, 0);
        Check.read(day, "fee 5 when tour = 1 and ship = 1 and rank = 5;");
        day.minutes(2);
        CHECK.same("tour, ship and rank", day.count(6), 15);
        tourWord();
        wordsOfTheOneThatLands();
    }

    /** 1 for each TOUR, whatever its number, ahead of its begin and behind it. */
    private static void tourWord() {
        ShoreDay day = new ShoreDay();
        day.ship(1, 719, 0);
        day.tender(0, 200);
        day.tour(300, 5, 5, 0);
        day.tour(2, 5, 5, 0);
        day.tour(1, 5, 5, 0);
        Check.read(day, "fee 5 when tour = 1; fee 7 when tour = 0;");
        for (int tour = -1; tour < 3; tour++) {
            day.group(0, 1, 0, 0, tour, 9);
        }
        day.minutes(2);
        CHECK.same("without a tour", day.look(0, 4), 7);
        CHECK.same("ahead of its begin", day.look(1, 4), 5);
        CHECK.same("as it begins", day.look(2, 4), 5);
        CHECK.same("behind its begin", day.look(3, 4), 5);
    }

    /** Each word is of the GROUP that lands, not of those that land with it or landed ahead of it. */
    private static void wordsOfTheOneThatLands() {
        ShoreDay day = new ShoreDay();
        day.ship(1, 719, 7);
        day.ship(1, 719, 3);
        day.tender(0, 200);
        day.tender(1, 200);
        day.tour(9, 9, 9, 0);
        day.group(0, 6, 0, 0, -1, 600);
        day.group(0, 4, 0, 0, 0, 600);
        day.group(1, 2, 0, 0, -1, 600);
        day.group(1, 1, 0, 118, -1, 600);
        Check.read(day, "fee 10 when guests = 6 and tour = 0 and hour = 0 and rank = 7 and ship = 0 and landed = 0;"
            + "fee 20 when guests = 4 and tour = 1 and hour = 0 and rank = 7 and ship = 0 and landed = 6;"
            + "fee 30 when guests = 2 and tour = 0 and hour = 0 and rank = 3 and ship = 1 and landed = 10;"
            + "fee 40 when guests = 1 and tour = 0 and hour = 2 and rank = 3 and ship = 1 and landed = 12;");
        day.minutes(120);
        int[] due = {60, 80, 60, 40};
        for (int i = 0; i < due.length; i++) {
            CHECK.same("what group " + i + " paid", day.look(i, 4), due[i]);
        }
    }

    private static void word(String word, int due, int guests, int rank, int from) {
        ShoreDay day = landing(guests, rank, from, 1);
        Check.read(day, "fee 2 when " + word + " = " + due + ";fee 1 when 1;");
        while (day.count(7) == 0 && day.minutes(1) >= 0) {
            CHECK.yes("lands by its MINUTE", day.count(4) <= Math.max(2, from + 1));
        }
        CHECK.same(word + " is " + due, day.count(6), 2 * guests);
    }

    private static void firstLineThatHolds() {
        ShoreDay day = landing(3, 2, 0, 1);
        Check.read(day, "fee 100 when guests < 3; fee 200 when rank = 2; fee 300 when 1;");
        day.minutes(2);
        CHECK.same("the second line", day.look(0, 4), 600);
        ShoreDay other = landing(3, 2, 0, 1);
        Check.read(other, "fee 100 when guests < 3; fee 200 when rank = 3;");
        other.minutes(2);
        CHECK.same("no line", other.look(0, 4), 0);
        CHECK.same("landed all the same", other.count(7), 3);
        ShoreDay third = landing(3, 2, 0, 1);
        Check.read(third, "fee 0 when 1; fee 999 when 1;");
        third.minutes(2);
        CHECK.same("a fee of 0 is a fee", third.look(0, 4), 0);
        ShoreDay fourth = landing(60, 2, 0, 1);
        Check.read(fourth, "fee 999 when 1;");
        CHECK.same("nothing ahead of landing", fourth.look(0, 4), 0);
        fourth.minutes(2);
        CHECK.same("the most", fourth.look(0, 4), 59940);
        Check.read(fourth, "fee 1 when 1;");
        CHECK.same("a later text changes nothing", fourth.count(6), 59940);
    }

    /** By TENDERS, and in a TENDER by numbers, whatever the tickets. */
    private static void landedAhead() {
        ShoreDay day = new ShoreDay();
        day.ship(1, 719, 0);
        day.ship(1, 719, 0);
        day.tender(1, 20);
        day.tender(0, 20);
        day.group(0, 2, 0, 0, -1, 600);
        day.group(1, 3, 9, 0, -1, 600);
        day.group(1, 4, 0, 0, -1, 600);
        day.group(0, 1, 0, 10, -1, 600);
        Check.read(day, "fee 1 when landed = 0; fee 2 when landed = 3; fee 3 when landed = 7; fee 4 when landed = 9;");
        day.minutes(2);
        CHECK.same("group 1 of tender 0", day.look(1, 4), 3);
        CHECK.same("group 2 of tender 0", day.look(2, 4), 8);
        CHECK.same("group 0 of tender 1", day.look(0, 4), 6);
        day.minutes(12);
        CHECK.same("group 3 later", day.look(3, 4), 4);
        CHECK.same("in all", day.count(6), 21);
    }

    /** All sides wait at each of the five levels at once. */
    private static void deepest() {
        String e = "1";
        for (int i = 0; i < 5; i++) {
            e = "1 and 0 < 1 + " + (i == 0 ? e : "(" + e + ")");
        }
        value(e, 1);
        String none = "9 - 10";
        for (int i = 0; i < 5; i++) {
            none = "1 and 0 < 0 + " + (i == 0 ? none : "(" + none + ")");
        }
        value("(1) and 0 = 1 - 1 + " + "(0 = 1 + (0 = 1 + (0 = 1 + (1 - 1))))", 1);
        value(none, 0);
    }

    /** Nothing of the texts there were, right or faulty, is left in the one in force. */
    private static void manyTexts() {
        ShoreDay day = landing(2, 0, 0, 1);
        for (int i = 0; i < 60; i++) {
            String e = "1+".repeat(20) + "1";
            boolean faulty = i % 3 == 2;
            int due = faulty ? 1 + 16 * 54 : 0;
            CHECK.same("text " + i, Check.read(day, "fee 500 when " + e + (faulty ? "" : ";")), due);
        }
        Check.read(day, "fee 5 when guests = 3; fee 4 when guests = 2 and (1 and (2 - 1 = 1)); fee 3 when 1;");
        CHECK.same("lines", day.count(8), 3);
        day.minutes(2);
        CHECK.same("paid by the last one", day.look(0, 4), 8);
    }

    private static void longest() {
        String e = "0" + "+1".repeat(280) + "=280";
        value(e, 1);
        value("1" + "-1".repeat(250), 1);
        value("250" + "-1".repeat(250), 0);
        String full = "fee 1 when " + "1+".repeat(294) + "1";
        CHECK.same("the longest", full.length(), 600);
        fault(full, 1, 600);
        good("fee 1 when " + "1+".repeat(293) + "1;", 1);
    }
}
