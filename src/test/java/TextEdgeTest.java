import java.util.List;

/** Promises 9 and 10 and section 3 of the terms at their edges: each sign, each length, each place of a FAULT. */
public final class TextEdgeTest {
    private static final List<String> PARTS = List.of("guests", "tour", "hour", "rank", "ship", "landed");
    private static final Check CHECK = new Check("TextEdgeTest");

    public static void main(String[] args) {
        eachByteOfAFeed();
        feedsUpToTheEdge();
        fullTapeIsReadAndEmpty();
        whatIsLeftOutJoins();
        textOfSixHundred();
        eachSignAsAToken();
        eachTokenInEachPlace();
        blanksAnywhere();
        numbersByLength();
        wordsByLength();
        feesByNumber();
        linesByNumber();
        withinOneAnother();
        leastOfTheFirst();
        endByPlace();
        valuesAtTheirEdges();
        longRowsOfAnd();
        hoursAtTheirEdges();
        guestsAndRanksAtTheirEdges();
        landedAtItsEdges();
        feesPaidAtTheirEdges();
        withoutALine();
        textInPlaceOfAnother();
        CHECK.end();
    }

    private static void right(String text, int lines) {
        ShoreDay day = new ShoreDay();
        CHECK.same("text " + text, Check.read(day, text), 0);
        CHECK.same("lines of " + text, day.count(8), lines);
        CHECK.same("the tape is empty", day.count(9), 0);
    }

    private static void fault(String text, int kind, int place) {
        ShoreDay day = new ShoreDay();
        CHECK.same("fault of " + text, Check.read(day, text), kind + 16 * place);
        CHECK.same("no line of " + text, day.count(8), 0);
        CHECK.same("the tape is empty", day.count(9), 0);
    }

    /** The bytes of a, b, c, of each the highest first: 'fee 1 when 1;' with one sign a call, from any byte. */
    private static void eachByteOfAFeed() {
        for (int place = 0; place < 24; place++) {
            ShoreDay day = new ShoreDay();
            String text = "fee 1 when 1;";
            for (int i = 0; i < text.length(); i++) {
                long bytes = (long) text.charAt(i) << 56 - 8 * (place % 8);
                int length = day.feed(place < 8 ? bytes : 0, place / 8 == 1 ? bytes : 0, place >= 16 ? bytes : 0);
                CHECK.same("signs there are", length, i + 1);
            }
            CHECK.same("from byte " + place, day.text(), 0);
            CHECK.same("one line", day.count(8), 1);
        }
        ShoreDay all = new ShoreDay();
        CHECK.same("24 signs", all.feed(0x6665652031207768L, 0x656e2031203d2031L, 0x2020203b20202020L), 24);
        CHECK.same("in their order", all.text(), 0);
        ShoreDay turned = new ShoreDay();
        turned.feed(0x656e2031203d2031L, 0x6665652031207768L, 0);
        CHECK.same("b ahead of a is another text", turned.text(), 1);
    }

    private static void feedsUpToTheEdge() {
        for (int there = 575; there <= 600; there++) {
            ShoreDay day = new ShoreDay();
            Check.feed(day, " ".repeat(there));
            CHECK.same("there are", day.count(9), there);
            long blanks = 0x2020202020202020L;
            CHECK.same("24 more", day.feed(blanks, blanks, blanks), Math.min(600, there + 24));
            CHECK.same("none more", day.feed(0, 0, 0), Math.min(600, there + 24));
        }
        ShoreDay day = new ShoreDay();
        Check.feed(day, "fee 1 when 1" + " ".repeat(587));
        CHECK.same("599 and two", day.feed(0x3b3fL, 0, 0), 600);
        CHECK.same("the first of the two is there, the second left out", day.text(), 0);
        CHECK.same("one line", day.count(8), 1);
    }

    private static void fullTapeIsReadAndEmpty() {
        ShoreDay day = new ShoreDay();
        for (int i = 0; i < 3; i++) {
            Check.feed(day, "?".repeat(601));
            CHECK.same("full", day.count(9), 600);
            CHECK.same("a fault", day.text(), 1);
            CHECK.same("empty", day.count(9), 0);
            Check.feed(day, " ".repeat(601));
            CHECK.same("full", day.count(9), 600);
            CHECK.same("no line", day.text(), 0);
            CHECK.same("empty", day.count(9), 0);
            CHECK.same("an empty tape is a text", day.text(), 0);
        }
    }

    /** Signs that are left out are not there, so what stands beside them is side by side. */
    private static void whatIsLeftOutJoins() {
        for (int sign : new int[] {0, 1, 9, 11, 13, 31, 127, 128, 200, 255}) {
            String out = String.valueOf((char) sign);
            right("f" + out + "ee 1 wh" + out + out + "en 1;", 1);
            fault("fee 1" + out + "000 when 1;", 4, 4);
            fault("fee" + out + "when 1;", 1, 0);
        }
    }

    private static void textOfSixHundred() {
        String last = "fee 1 when 1" + " ".repeat(587) + ";";
        CHECK.same("signs", last.length(), 600);
        right(last, 1);
        right("fee 1 when 10" + "+1".repeat(293) + ";", 1);
        right(" ".repeat(587) + "fee 1 when 1;", 1);
        fault(" ".repeat(588) + "fee 1 when 1;", 1, 600);
        fault(" ".repeat(599) + "?", 1, 599);
        fault("?" + " ".repeat(599), 1, 0);
        fault(" ".repeat(590) + "abcdefghijkl", 1, 590);
        fault(" ".repeat(591) + "fee 12345", 1, 595);
        fault(" ".repeat(592) + "fee 12345", 4, 596);
        fault(" ".repeat(592) + "fee 1000", 4, 596);
        fault(" ".repeat(593) + "fee 1000", 1, 600);
        fault("x".repeat(600), 1, 0);
        fault("fee " + "1".repeat(596), 1, 4);
    }

    /** ( ) < = + - and the semicolon, a .. z and 0 .. 9, and blanks; all else is none. */
    private static void eachSignAsAToken() {
        for (int sign = 32; sign <= 126; sign++) {
            String s = String.valueOf((char) sign);
            boolean digit = sign >= '0' && sign <= '9';
            fault(s + " ?", 1, sign == 32 ? 2 : 0);
            if (digit) {
                right("fee " + s + " when " + s + ";", 1);
            } else if (sign != 32) {
                fault("fee " + s + " when 1;", 1, 4);
                boolean canFollow = "<=+-".indexOf(sign) >= 0;
                boolean ends = sign == ';';
                fault("fee 1 when 1 " + s + " ?", 1, canFollow || ends ? 15 : 13);
                fault("fee 1 when " + s, 1, sign == '(' ? 12 : 11);
            }
        }
        right("\n", 0);
    }

    /** What can stand in a place is read, and the FAULT is behind it; what can't is the FAULT. */
    private static void eachTokenInEachPlace() {
        String[] tokens = {"fee", "when", "and", "(", ")", "<", "=", "+", "-", ";", "7", "guests", "tour", "hour", "rank",
            "ship", "landed", "let", "or", "~"};
        for (String token : tokens) {
            boolean part = token.equals("7") || token.equals("(") || PARTS.contains(token);
            boolean operator = List.of("and", "<", "=", "+", "-").contains(token);
            place("", token, token.equals("fee"));
            place("fee", token, token.equals("7"));
            place("fee 1", token, token.equals("when"));
            place("fee 1 when", token, part);
            place("fee 1 when 1", token, operator || token.equals(";"));
            place("fee 1 when 1 +", token, part);
            place("fee 1 when 1 -", token, part);
            place("fee 1 when 1 <", token, part);
            place("fee 1 when 1 =", token, part);
            place("fee 1 when 1 and", token, part);
            place("fee 1 when (", token, part);
            place("fee 1 when ( 1", token, operator || token.equals(")"));
            place("fee 1 when ( 1 )", token, operator || token.equals(";"));
            boolean second = operator && !token.equals("<") && !token.equals("=");
            place("fee 1 when 1 < 2", token, second || token.equals(";"));
            place("fee 1 when 1 = 2", token, second || token.equals(";"));
            place("fee 1 when ( 1 < 2", token, second || token.equals(")"));
            place("fee 1 when ( 1 < 2 ) = ( 1 = 2 )", token, second || token.equals(";"));
            place("fee 1 when 1 < 2 and 3", token, operator || token.equals(";"));
            place("fee 1 when 1 ;", token, token.equals("fee"));
        }
    }

    private static void place(String ahead, String token, boolean can) {
        String text = ahead + " " + token + " ?";
        fault(text, 1, can ? text.length() - 1 : ahead.length() + 1);
    }

    private static void blanksAnywhere() {
        right("fee 1 when(guests+tour)<3and landed=0;", 1);
        right("fee1when1;fee1when1;", 2);
        right("fee\n1\nwhen\n1\n;\n", 1);
        right("\n\n  fee  1 \n when 1 \n\n ; ", 1);
        fault("f ee 1 when 1;", 1, 0);
        fault("fee 1 wh\nen 1;", 1, 6);
        fault("fee 1 1 when 1;", 1, 6);
        fault("fee 1 when 1 1;", 1, 13);
        fault("fee 1 when tourtour;", 1, 11);
        fault("fee 1 whentour;", 1, 6);
        fault("fee 1 when tourand 1;", 1, 11);
        fault("fee 1 when 1 andtour;", 1, 13);
        right("fee 1 when 1and(tour)and 2;", 1);
    }

    private static void numbersByLength() {
        right("fee 1 when 9;", 1);
        right("fee 1 when 9999;", 1);
        right("fee 1 when 0000;", 1);
        fault("fee 1 when 10000;", 1, 11);
        fault("fee 1 when 00000;", 1, 11);
        fault("fee 1 when 1 + 99999;", 1, 15);
        fault("fee 1 when 2147483648;", 1, 11);
        fault("fee 1 when 4294967297;", 1, 11);
        fault("fee 1 when 18446744073709551617;", 1, 11);
        right("fee 1when 9999and 1;", 1);
        fault("fee 1 when 99999and 1;", 1, 11);
        fault("fee 1 when 9999guests;", 1, 15);
    }

    private static void wordsByLength() {
        fault("abcdefgh", 1, 0);
        fault("abcdefghi", 1, 0);
        fault("feefeefee 1 when 1;", 1, 0);
        fault("fee 1 whenwhenwhen 1;", 1, 6);
        fault("fee 1 when guestsgue;", 1, 11);
        fault("fee 1 when landedlan;", 1, 11);
        for (String part : PARTS) {
            right("fee 1 when " + part + ";", 1);
            right("fee 1 when " + part + "<" + part + "+" + part + ";", 1);
            fault("fee 1 when " + part.substring(1) + ";", 1, 11);
            fault("fee 1 when " + part.substring(0, part.length() - 1) + ";", 1, 11);
            fault("fee 1 when " + part + "s;", 1, 11);
            fault("fee 1 when " + part.toUpperCase() + ";", 1, 11);
            fault("fee 1 when " + part + "1;", 1, 11 + part.length());
            fault("fee 1 when " + part + "A;", 1, 11 + part.length());
            fault("fee 1 when " + part + "_;", 1, 11 + part.length());
            fault("fee 1 when 12A" + part + ";", 1, 13);
        }
        fault("fe 1 when 1;", 1, 0);
        fault("ee 1 when 1;", 1, 0);
        fault("fee 1 whe 1;", 1, 6);
        fault("fee 1 hen 1;", 1, 6);
        fault("fee 1 when 1 an 1;", 1, 13);
        fault("fee 1 when 1 nd 1;", 1, 13);
        fault("fee 1 when 1 or 1;", 1, 13);
    }

    private static void feesByNumber() {
        right("fee 0 when 1;", 1);
        right("fee 0000 when 1;", 1);
        right("fee 999 when 1;", 1);
        right("fee 0999 when 1;", 1);
        fault("fee 1000 when 1;", 4, 4);
        fault("fee 9999 when 1;", 4, 4);
        fault("fee 00999 when 1;", 1, 4);
        fault("fee -1 when 1;", 1, 4);
        fault("fee 1000when 1;", 4, 4);
        fault("fee 999 when 1;fee 1000 when 1;", 4, 19);
        right("fee 1 when 1000;", 1);
        fault("fee 1 when 1; ".repeat(15) + "fee 1000 when 1;", 4, 214);
    }

    private static void linesByNumber() {
        String line = "fee 1 when 1;";
        for (int lines = 0; lines <= 16; lines++) {
            right(line.repeat(lines), lines);
        }
        fault(line.repeat(17), 5, 16 * 13);
        fault(line.repeat(18), 5, 16 * 13);
        fault(line.repeat(46), 5, 16 * 13);
        fault(line.repeat(16) + "  \n fee", 5, 16 * 13 + 4);
        fault(line.repeat(16) + "fee 1000", 5, 16 * 13);
        fault(line.repeat(16) + ";", 1, 16 * 13);
        fault(line.repeat(16) + "1", 1, 16 * 13);
        fault(line.repeat(16) + "fees", 1, 16 * 13);
        right(line.repeat(16) + " ".repeat(300), 16);
        fault(line.repeat(15) + "fee 1 when 1", 1, 16 * 13 - 1);
    }

    /** A PART is within as many others as there are ( open around it: 4 are fine, 5 are too many. */
    private static void withinOneAnother() {
        for (int depth = 0; depth <= 4; depth++) {
            right("fee 1 when " + "(".repeat(depth) + "1" + ")".repeat(depth) + ";", 1);
        }
        for (int depth = 5; depth <= 100; depth += 19) {
            fault("fee 1 when " + "(".repeat(depth) + "1" + ")".repeat(depth) + ";", 5, 16);
        }
        for (String part : PARTS) {
            right("fee 1 when ((((" + part + "))));", 1);
            fault("fee 1 when (((((" + part + ")))));", 5, 16);
        }
        right("fee 1 when ((((1)+1)+1)+1)+1;", 1);
        right("fee 1 when (1)+((1)+((1)+((1)+1)));", 1);
        right("fee 1 when ((((1))))+((((1))))<((((1))))and((((1))))=((((1))));", 1);
        fault("fee 1 when ((((1))))+((((1))))<(((((1)))));", 5, 36);
        fault("fee 1 when 1+(1+(1+(1+(1+(1))))));", 5, 26);
        fault("fee 1 when 1<(1<(1<(1<(1<(1))))));", 5, 26);
        fault("fee 1 when ((((1 and (1", 5, 22);
        fault("fee 1 when 1; fee 1 when (((((1)))));", 5, 30);
        right("fee 1 when ((((1)))); fee 1 when ((((1))));", 2);
    }

    /** Of the first token that is wrong the least kind, whatever is wrong behind it. */
    private static void leastOfTheFirst() {
        fault("fee 1000 when (((((1", 4, 4);
        fault("fee 1 when (((((1 ?", 5, 16);
        fault("fee 1 when (((((?", 1, 16);
        fault("fee 1 when (((((and", 1, 16);
        fault("fee 1 when ((((()", 1, 16);
        fault("fee 1 when (((((", 1, 16);
        fault("fee 1 when ((((( ", 1, 17);
        fault("fee ? when 1; fee 1000", 1, 4);
        fault("fee 1 when 1; ".repeat(16) + "? fee", 1, 224);
        fault("fee 1 when 1; ".repeat(15) + "fee 1 when (((((1; fee", 5, 226);
    }

    /** The end is a token at the text's length, with the blanks behind the last sign. */
    private static void endByPlace() {
        String text = "fee 1 when ( 1 < 2 ) + 3";
        for (int length : new int[] {3, 4, 5, 6, 10, 11, 12, 13, 14, 15, 16, 17, 18, 19, 20, 21, 22, 23, 24}) {
            fault(text.substring(0, length), 1, length);
            fault(text.substring(0, length) + " \n ", 1, length + 3);
        }
        fault(text + ";?", 1, 25);
        right(text + ";", 1);
        right(text + "; ", 1);
    }

    private static ShoreDay landing(int guests, int rank, int from) {
        ShoreDay day = new ShoreDay();
        day.ship(1, 719, rank);
        day.tender(0, 200);
        day.group(0, guests, 0, from, -1, 600);
        return day;
    }

    private static void holdsIf(String e, boolean due) {
        ShoreDay day = landing(1, 0, 0);
        CHECK.same("text " + e, Check.read(day, "fee 1 when " + e + ";"), 0);
        day.minutes(2);
        CHECK.same(e + " is not 0", day.count(6), due ? 1 : 0);
    }

    private static void valuesAtTheirEdges() {
        holdsIf("0", false);
        holdsIf("1", true);
        holdsIf("0 - 1", true);
        holdsIf("0 - 9999", true);
        holdsIf("0 < 0", false);
        holdsIf("0 < 1", true);
        holdsIf("1 < 0", false);
        holdsIf("0 - 1 < 0", true);
        holdsIf("0 < 0 - 1", false);
        holdsIf("0 = 0", true);
        holdsIf("0 - 1 = 1", false);
        holdsIf("9999 = 9999", true);
        holdsIf("9998 < 9999", true);
        holdsIf("9999 < 9999", false);
        holdsIf("(0 < 1) = 1", true);
        holdsIf("(5 = 5) = 1", true);
        holdsIf("(5 and 7) = 1", true);
        holdsIf("(5 and 0) = 0", true);
        holdsIf("(0 - 1 and 0 - 1) = 1", true);
        holdsIf("0 and 0", false);
        holdsIf("1 and 0 - 1", true);
        holdsIf("1 - 1 and 1", false);
        holdsIf("(7) = 7", true);
        holdsIf("(3 - 5) = 0 - 2", true);
        holdsIf("1 - 1 - 1 = 0 - 1", true);
        holdsIf("1 - (1 - 1) = 1", true);
        holdsIf("1 - 1 + 1 = 1", true);
        holdsIf("2 < 3 - 1", false);
        holdsIf("1 + 1 = 1 and 1", false);
        holdsIf("9999" + "+9999".repeat(55) + "-9999".repeat(56), false);
        holdsIf("0" + "-9999".repeat(58) + "+9999".repeat(58) + "+1", true);
    }

    /** As many sides as a TAPE has room for, and each of them counts. */
    private static void longRowsOfAnd() {
        for (int sides : new int[] {2, 15, 16, 17, 18, 40, 80}) {
            String ones = "1 and ".repeat(sides - 1);
            holdsIf(ones + "1", true);
            holdsIf(ones + "0", false);
            holdsIf("0" + " and 1".repeat(sides - 1), false);
            holdsIf("1 and 0" + " and 1".repeat(sides - 1), false);
            holdsIf("(" + ones + "5) = 1", true);
        }
        holdsIf("1<2 and ".repeat(60) + "2=2", true);
        holdsIf("1<2 and ".repeat(60) + "2<2", false);
    }

    private static void hoursAtTheirEdges() {
        int[][] minuteHour = {{2, 0}, {59, 0}, {60, 1}, {119, 1}, {120, 2}, {659, 10}, {660, 11}, {718, 11}, {719, 11}};
        for (int[] due : minuteHour) {
            ShoreDay day = landing(1, 0, due[0] - 1);
            Check.read(day, "fee 2 when hour = " + due[1] + "; fee 1 when 1;");
            for (int i = 0; i < 3; i++) {
                day.minutes(Math.min(200, due[0] - day.count(4)));
            }
            day.minutes(due[0] - day.count(4));
            CHECK.same("landed in", day.look(0, 2), due[0]);
            CHECK.same("the hour of " + due[0], day.count(6), 2);
        }
    }

    private static void guestsAndRanksAtTheirEdges() {
        for (int guests : new int[] {1, 2, 59, 60}) {
            for (int rank : new int[] {0, 1, 8, 9}) {
                ShoreDay day = landing(guests, rank, 0);
                Check.read(day, "fee 3 when guests = " + guests + " and rank = " + rank + "; fee 1 when 1;");
                day.minutes(2);
                CHECK.same("guests " + guests + ", rank " + rank, day.look(0, 4), 3 * guests);
            }
        }
        ShoreDay day = new ShoreDay();
        for (int i = 0; i < 4; i++) {
            day.ship(1, 719, 9 - i);
            day.tender(i, 5);
            day.group(i, 1, 0, 0, -1, 5);
        }
        Check.read(day, "fee 10 when ship = 0; fee 11 when ship = 1; fee 12 when ship = 2; fee 13 when ship = 3;");
        day.minutes(2);
        for (int i = 0; i < 4; i++) {
            CHECK.same("of ship " + i, day.look(i, 4), 10 + i);
        }
    }

    /** Ahead of it: not itself, and all of the day, BACK or LEFT as they may be. */
    private static void landedAtItsEdges() {
        ShoreDay day = new ShoreDay();
        day.ship(1, 60, 0);
        day.ship(1, 719, 0);
        day.tender(0, 60);
        day.tender(1, 60);
        day.group(0, 60, 0, 0, -1, 600);
        day.group(1, 50, 0, 0, -1, 1);
        day.group(1, 1, 0, 100, -1, 1);
        Check.read(day, "fee 1 when landed = 0; fee 2 when landed = 60; fee 3 when landed = 110; fee 4 when 1;");
        day.minutes(110);
        CHECK.same("left", day.look(0, 0), 6);
        CHECK.same("back", day.look(1, 0), 5);
        CHECK.same("the first", day.look(0, 4), 60);
        CHECK.same("the second", day.look(1, 4), 100);
        CHECK.same("the third", day.look(2, 4), 3);
        CHECK.same("landed", day.count(7), 111);
    }

    private static void feesPaidAtTheirEdges() {
        for (int fee : new int[] {0, 1, 998, 999}) {
            ShoreDay day = landing(60, 0, 0);
            Check.read(day, "fee 999 when 0; fee " + fee + " when 1; fee 5 when 1;");
            day.minutes(1);
            CHECK.same("nothing in the tender", day.look(0, 4), 0);
            CHECK.same("nothing in all", day.count(6), 0);
            day.minutes(1);
            CHECK.same("fee " + fee, day.look(0, 4), 60 * fee);
            CHECK.same("in all", day.count(6), 60 * fee);
        }
        ShoreDay last = landing(2, 0, 0);
        Check.read(last, "fee 1 when 0; ".repeat(15) + "fee 7 when 1;");
        last.minutes(2);
        CHECK.same("the sixteenth line", last.look(0, 4), 14);
        ShoreDay first = landing(2, 0, 0);
        Check.read(first, "fee 7 when 1; " + "fee 1 when 1; ".repeat(15));
        first.minutes(2);
        CHECK.same("the first line", first.look(0, 4), 14);
    }

    private static void withoutALine() {
        ShoreDay none = landing(5, 0, 0);
        none.minutes(2);
        CHECK.same("no text at all", none.look(0, 4), 0);
        ShoreDay empty = landing(5, 0, 0);
        Check.read(empty, "fee 5 when 1;");
        CHECK.same("an empty text in its place", empty.text(), 0);
        CHECK.same("no line", empty.count(8), 0);
        empty.minutes(2);
        CHECK.same("no fee", empty.look(0, 4), 0);
        ShoreDay unread = landing(5, 0, 0);
        Check.feed(unread, "fee 5 when 1;");
        unread.minutes(2);
        CHECK.same("on the tape, not read", unread.look(0, 4), 0);
        CHECK.same("still there", unread.count(9), 13);
    }

    private static void textInPlaceOfAnother() {
        ShoreDay day = landing(5, 0, 0);
        Check.read(day, "fee 1 when 1;".repeat(16));
        CHECK.same("lines", day.count(8), 16);
        Check.read(day, "fee 2 when 0;");
        CHECK.same("lines", day.count(8), 1);
        day.minutes(2);
        CHECK.same("none of the old lines", day.look(0, 4), 0);
        for (int lines = 0; lines <= 16; lines++) {
            ShoreDay third = landing(5, 0, 0);
            Check.read(third, "fee 1 when 1;".repeat(16));
            Check.read(third, "fee 2 when 1;".repeat(16));
            CHECK.same("a third text", Check.read(third, "fee 3 when 0;".repeat(lines)), 0);
            CHECK.same("lines", third.count(8), lines);
            third.minutes(2);
            CHECK.same("none of the old lines behind " + lines, third.look(0, 4), 0);
        }
    }
}
