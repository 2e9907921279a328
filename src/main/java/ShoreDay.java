import java.util.NoSuchElementException;

/** A day off a town: ships, tenders, groups of guests, tours, fees by a text, and guides. */
public final class ShoreDay {
    public static final int NONE = -1;

    private static final int LAST_MINUTE = 719;
    private static final int MOST_MINUTES_A_CALL = 200;
    private static final int MOST_SHIPS = 4;
    private static final int MOST_TENDERS = 6;
    private static final int MOST_TOURS = 8;
    private static final int MOST_GROUPS = 60;
    private static final int MOST_SHUT_ROWS = 10;
    private static final int MOST_GUIDES = 6;
    private static final int MOST_TOWN = 10000;
    private static final int WALK_WITHOUT_TOUR = 60;

    // What a GROUP is; the numbers are those that look answers.
    private static final int ABOARD = 0;
    private static final int IN_TENDER = 1;
    private static final int ASHORE = 2;
    private static final int ON_TOUR = 3;
    private static final int AT_QUAY = 4;
    private static final int BACK = 5;
    private static final int LEFT = 6;

    // Where a TENDER is; the numbers are those that lies answers.
    private static final int LIES_AT_SHIP = 0;
    private static final int GOES_ASHORE = 1;
    private static final int LIES_AT_QUAY = 2;
    private static final int GOES_BACK = 3;
    private static final int GOES_NO_MORE = 4;

    private static final int TAPE_LENGTH = 600;
    private static final int MOST_LINES = 16;
    private static final int MOST_WORD = 8;
    private static final int MOST_DIGITS = 4;
    private static final int MOST_FEE = 999;
    private static final int MOST_WITHIN = 5;
    // Three sides can wait at each of the levels (of "and", of a test, of a sum), and one part on top.
    private static final int STACK_LENGTH = 3 * MOST_WITHIN + 1;

    private static final int WRONG_TOKEN = 1;
    private static final int WRONG_FEE = 4;
    private static final int TOO_MUCH = 5;

    // Kinds of tokens. A part's word is GUESTS or above, so that its code needs no table of its own.
    private static final int NOTHING = 0;
    private static final int END = 1;
    private static final int NUMBER = 2;
    private static final int FEE = 3;
    private static final int WHEN = 4;
    private static final int AND = 5;
    private static final int OPEN = 6;
    private static final int CLOSE = 7;
    private static final int LESS = 8;
    private static final int EQUAL = 9;
    private static final int PLUS = 10;
    private static final int MINUS = 11;
    private static final int SEMICOLON = 12;
    private static final int GUESTS = 13;
    private static final int TOUR = 14;
    private static final int HOUR = 15;
    private static final int RANK = 16;
    private static final int SHIP = 17;
    private static final int LANDED = 18;

    private final Ship[] ships = new Ship[MOST_SHIPS];
    private int shipCount;
    private final Tender[] tenders = new Tender[MOST_TENDERS];
    private int tenderCount;
    private final Tour[] tours = new Tour[MOST_TOURS];
    private int tourCount;
    private final Group[] groups = new Group[MOST_GROUPS];
    private final Group[] byTicket = new Group[MOST_GROUPS];
    private int groupCount;
    // A GROUP comes to the QUAY once a day at most, so this row never has to shrink.
    private final Group[] byQuay = new Group[MOST_GROUPS];
    private int byQuayCount;
    private final Sea sea = new Sea();
    private final FeeDesk desk = new FeeDesk();
    private final Guides guides = new Guides();
    private int now;
    private int townHolds = MOST_TOWN;
    private int landedGuests;
    private int feesInAll;

    public ShoreDay() {
    }

    public int ship(int way, int sails, int rank) {
        if (!within(way, 1, 60) || !within(sails, 60, LAST_MINUTE) || !within(rank, 0, 9)) {
            return NONE;
        }
        if (sails <= now || shipCount >= MOST_SHIPS) {
            return NONE;
        }
        ships[shipCount] = new Ship(shipCount, way, sails, rank);
        shipCount++;
        return shipCount - 1;
    }

    public int tender(int ship, int room) {
        Ship owner = shipAt(ship);
        if (owner == null || owner.sailed || !within(room, 1, 200) || tenderCount >= MOST_TENDERS) {
            return NONE;
        }
        tenders[tenderCount] = new Tender(tenderCount, owner, room);
        tenderCount++;
        return tenderCount - 1;
    }

    public int tour(int begins, int lasts, int seats, int tongue) {
        if (!within(begins, 1, LAST_MINUTE) || !within(lasts, 1, 300)) {
            return NONE;
        }
        if (!within(seats, 1, 200) || !within(tongue, 0, 7)) {
            return NONE;
        }
        if (begins <= now || tourCount >= MOST_TOURS) {
            return NONE;
        }
        tours[tourCount] = new Tour(begins, lasts, seats, tongue);
        tourCount++;
        return tourCount - 1;
    }

    public int group(int ship, int guests, int ticket, int from, int tour, int walk) {
        Ship owner = shipAt(ship);
        Tour wanted = tourAt(tour);
        if (owner == null || owner.sailed || groupCount >= MOST_GROUPS) {
            return NONE;
        }
        if (!within(guests, 1, 60) || !within(ticket, 0, 999) || !within(from, 0, LAST_MINUTE)) {
            return NONE;
        }
        if (tour == NONE ? !within(walk, 1, 600) : wanted == null) {
            return NONE;
        }
        Group added = new Group(owner, guests, ticket, from, wanted, walk);
        groups[groupCount] = added;
        putByTicket(added);
        groupCount++;
        return groupCount - 1;
    }

    public boolean holds(int n) {
        if (!within(n, 1, MOST_TOWN)) {
            return false;
        }
        townHolds = n;
        return true;
    }

    public boolean shut(int low, int high) {
        if (low < 1 || low > high || high > LAST_MINUTE) {
            return false;
        }
        return sea.addRow(low, high);
    }

    public int minutes(int n) {
        if (!within(n, 0, MOST_MINUTES_A_CALL) || now + n > LAST_MINUTE) {
            return NONE;
        }
        for (int i = 0; i < n; i++) {
            now++;
            moveTenders();
            beginTours();
            bringToQuay();
            sailShips();
            if (!sea.isShutIn(now)) {
                sendTenders();
            }
        }
        return now;
    }

    public int feed(long a, long b, long c) {
        desk.tape.takeBytes(a);
        desk.tape.takeBytes(b);
        desk.tape.takeBytes(c);
        return desk.tape.length;
    }

    public int text() {
        return desk.readTape();
    }

    public int guide(int tongues) {
        return within(tongues, 1, 255) ? guides.add(tongues) : NONE;
    }

    public int plan() {
        return guides.planBest(tours, tourCount);
    }

    public int planned(int tour) {
        return within(tour, 0, tourCount - 1) ? guides.chosen[tour] : NONE;
    }

    public int look(int group, int what) throws NoSuchElementException {
        if (!within(group, 0, groupCount - 1)) {
            throw new NoSuchElementException("no such group");
        }
        Group seen = groups[group];
        switch (what) {
            case 0:
                return seen.state;
            case 1:
                return seen.tender == null ? NONE : seen.tender.number;
            case 2:
                return seen.landedIn;
            case 3:
                return seen.backIn;
            case 4:
                return seen.paid;
            case 5:
                return seen.state == AT_QUAY ? seen.quaySince : NONE;
            default:
                throw new NoSuchElementException("nothing such of a group");
        }
    }

    public int lies(int tender, int what) {
        if (!within(tender, 0, tenderCount - 1)) {
            return NONE;
        }
        Tender seen = tenders[tender];
        switch (what) {
            case 0:
                return seen.place;
            case 1:
                return seen.minutesLeft;
            case 2:
                return seen.load;
            default:
                return NONE;
        }
    }

    public int guests(int ship, int what) {
        Ship seen = shipAt(ship);
        if (seen == null) {
            return NONE;
        }
        switch (what) {
            case 0:
                return guestsIn(seen, ABOARD, ABOARD);
            case 1:
                return guestsIn(seen, IN_TENDER, IN_TENDER);
            case 2:
                return guestsIn(seen, ASHORE, AT_QUAY);
            case 3:
                return guestsIn(seen, BACK, BACK);
            case 4:
                return guestsIn(seen, LEFT, LEFT);
            case 5:
                return seen.sailed ? 1 : 0;
            default:
                return NONE;
        }
    }

    public int rides(int tour, int what) {
        Tour seen = tourAt(tour);
        if (seen == null) {
            return NONE;
        }
        switch (what) {
            case 0:
                return seen.riders;
            case 1:
                return seen.seats - seen.riders;
            case 2:
                return seen.begins <= now ? 1 : 0;
            default:
                return NONE;
        }
    }

    public int count(int what) {
        switch (what) {
            case 0:
                return shipCount;
            case 1:
                return tenderCount;
            case 2:
                return tourCount;
            case 3:
                return groupCount;
            case 4:
                return now;
            case 5:
                return guestsInTown();
            case 6:
                return feesInAll;
            case 7:
                return landedGuests;
            case 8:
                return desk.current.lines;
            case 9:
                return desk.tape.length;
            default:
                return NONE;
        }
    }

    private static boolean within(int n, int low, int high) {
        return n >= low && n <= high;
    }

    private Ship shipAt(int number) {
        return within(number, 0, shipCount - 1) ? ships[number] : null;
    }

    private Tour tourAt(int number) {
        return within(number, 0, tourCount - 1) ? tours[number] : null;
    }

    /** Behind all of its own ticket: it has the highest number so far. */
    private void putByTicket(Group added) {
        int place = groupCount;
        while (place > 0 && byTicket[place - 1].ticket > added.ticket) {
            byTicket[place] = byTicket[place - 1];
            place--;
        }
        byTicket[place] = added;
    }

    private int guestsIn(Ship ship, int lowState, int highState) {
        int sum = 0;
        for (int i = 0; i < groupCount; i++) {
            if (groups[i].ship == ship && within(groups[i].state, lowState, highState)) {
                sum += groups[i].guests;
            }
        }
        return sum;
    }

    private int guestsInTown() {
        int sum = 0;
        for (int i = 0; i < groupCount; i++) {
            if (groups[i].isInTown()) {
                sum += groups[i].guests;
            }
        }
        return sum;
    }

    private void moveTenders() {
        for (int i = 0; i < tenderCount; i++) {
            Tender tender = tenders[i];
            if (tender.place == GOES_ASHORE || tender.place == GOES_BACK) {
                tender.minutesLeft--;
                if (tender.minutesLeft == 0) {
                    arrive(tender);
                }
            }
        }
    }

    private void arrive(Tender tender) {
        boolean ashore = tender.place == GOES_ASHORE;
        for (int i = 0; i < groupCount; i++) {
            Group group = groups[i];
            if (group.tender == tender) {
                group.tender = null;
                if (ashore) {
                    land(group);
                } else {
                    group.state = BACK;
                    group.backIn = now;
                }
            }
        }
        tender.place = ashore ? LIES_AT_QUAY : LIES_AT_SHIP;
        tender.load = 0;
    }

    private void land(Group group) {
        group.state = ASHORE;
        group.landedIn = now;
        if (group.tour == null) {
            group.walkEnds = now + group.walk;
        } else {
            group.walkEnds = group.tour.begins >= now ? group.tour.begins : now + WALK_WITHOUT_TOUR;
        }
        group.landedAhead = landedGuests;
        group.paid = group.guests * desk.feeOf(group);
        feesInAll += group.paid;
        landedGuests += group.guests;
    }

    private void beginTours() {
        for (int i = 0; i < tourCount; i++) {
            if (tours[i].begins == now) {
                seatGroups(tours[i]);
            }
        }
    }

    private void seatGroups(Tour tour) {
        for (int i = 0; i < groupCount; i++) {
            Group group = byTicket[i];
            if (group.state == ASHORE && group.tour == tour) {
                if (group.guests <= tour.seats - tour.riders) {
                    group.state = ON_TOUR;
                    tour.riders += group.guests;
                } else {
                    group.walkEnds = now + WALK_WITHOUT_TOUR;
                }
            }
        }
    }

    private void bringToQuay() {
        for (int i = 0; i < groupCount; i++) {
            Group group = groups[i];
            if (group.isOverIn(now) && byQuayCount < MOST_GROUPS) {
                group.state = AT_QUAY;
                group.quaySince = now;
                byQuay[byQuayCount] = group;
                byQuayCount++;
            }
        }
    }

    private void sailShips() {
        for (int i = 0; i < shipCount; i++) {
            if (ships[i].sails == now) {
                sail(ships[i]);
            }
        }
    }

    private void sail(Ship ship) {
        ship.sailed = true;
        for (int i = 0; i < groupCount; i++) {
            Group group = groups[i];
            if (group.ship == ship && within(group.state, IN_TENDER, AT_QUAY)) {
                group.state = LEFT;
                group.tender = null;
            }
        }
        for (int i = 0; i < tenderCount; i++) {
            if (tenders[i].ship == ship) {
                tenders[i].place = GOES_NO_MORE;
                tenders[i].minutesLeft = 0;
                tenders[i].load = 0;
            }
        }
    }

    private void sendTenders() {
        for (int i = 0; i < tenderCount; i++) {
            Tender tender = tenders[i];
            if (tender.place == LIES_AT_SHIP) {
                loadAtShip(tender);
                if (tender.load > 0 || isSomeoneAtQuay(tender.ship)) {
                    tender.leave(GOES_ASHORE);
                }
            } else if (tender.place == LIES_AT_QUAY) {
                loadAtQuay(tender);
                if (tender.load > 0 || isSomeoneToFetch(tender.ship)) {
                    tender.leave(GOES_BACK);
                }
            }
        }
    }

    private void loadAtShip(Tender tender) {
        int townRoom = townHolds - guestsInTownOrComing();
        for (int i = 0; i < groupCount; i++) {
            Group group = byTicket[i];
            if (group.ship == tender.ship && group.waitsAboard(now)
                    && tender.hasRoomFor(group) && group.guests <= townRoom) {
                tender.take(group);
                townRoom -= group.guests;
            }
        }
    }

    private void loadAtQuay(Tender tender) {
        for (int i = 0; i < byQuayCount; i++) {
            Group group = byQuay[i];
            if (group.ship == tender.ship && group.state == AT_QUAY && tender.hasRoomFor(group)) {
                tender.take(group);
            }
        }
    }

    private int guestsInTownOrComing() {
        int sum = guestsInTown();
        for (int i = 0; i < tenderCount; i++) {
            if (tenders[i].place == GOES_ASHORE) {
                sum += tenders[i].load;
            }
        }
        return sum;
    }

    private boolean isSomeoneAtQuay(Ship ship) {
        for (int i = 0; i < byQuayCount; i++) {
            if (byQuay[i].ship == ship && byQuay[i].state == AT_QUAY) {
                return true;
            }
        }
        return false;
    }

    private boolean isSomeoneToFetch(Ship ship) {
        for (int i = 0; i < groupCount; i++) {
            if (groups[i].ship == ship && groups[i].waitsAboard(now)) {
                return true;
            }
        }
        return false;
    }

    private static final class Ship {
        final int number;
        final int way;
        final int sails;
        final int rank;
        boolean sailed;

        Ship(int number, int way, int sails, int rank) {
            this.number = number;
            this.way = way;
            this.sails = sails;
            this.rank = rank;
        }
    }

    private static final class Tender {
        final int number;
        final Ship ship;
        final int room;
        int place = LIES_AT_SHIP;
        int minutesLeft;
        int load;

        Tender(int number, Ship ship, int room) {
            this.number = number;
            this.ship = ship;
            this.room = room;
        }

        boolean hasRoomFor(Group group) {
            return group.guests <= room - load;
        }

        void take(Group group) {
            group.state = IN_TENDER;
            group.tender = this;
            load += group.guests;
        }

        void leave(int newPlace) {
            place = newPlace;
            minutesLeft = ship.way;
        }
    }

    private static final class Tour {
        final int begins;
        final int lasts;
        final int seats;
        final int tongue;
        int riders;

        Tour(int begins, int lasts, int seats, int tongue) {
            this.begins = begins;
            this.lasts = lasts;
            this.seats = seats;
            this.tongue = tongue;
        }
    }

    private static final class Group {
        final Ship ship;
        final int guests;
        final int ticket;
        final int from;
        final Tour tour;
        final int walk;
        int state = ABOARD;
        Tender tender;
        int landedIn = NONE;
        int landedAhead;
        int backIn = NONE;
        int paid;
        int quaySince = NONE;
        int walkEnds = NONE;

        Group(Ship ship, int guests, int ticket, int from, Tour tour, int walk) {
            this.ship = ship;
            this.guests = guests;
            this.ticket = ticket;
            this.from = from;
            this.tour = tour;
            this.walk = walk;
        }

        boolean isInTown() {
            return within(state, ASHORE, AT_QUAY);
        }

        boolean waitsAboard(int minute) {
            return state == ABOARD && from <= minute;
        }

        boolean isOverIn(int minute) {
            if (state == ON_TOUR && tour != null) {
                return tour.begins + tour.lasts == minute;
            }
            return state == ASHORE && walkEnds == minute;
        }

        /** What a word of the text stands for as this GROUP lands. */
        int valueOf(int word) {
            switch (word) {
                case GUESTS:
                    return guests;
                case TOUR:
                    return tour == null ? 0 : 1;
                case HOUR:
                    return landedIn / 60;
                case RANK:
                    return ship.rank;
                case SHIP:
                    return ship.number;
                default:
                    return landedAhead;
            }
        }
    }

    private static final class Sea {
        private final int[] lows = new int[MOST_SHUT_ROWS];
        private final int[] highs = new int[MOST_SHUT_ROWS];
        private int rows;

        boolean addRow(int low, int high) {
            if (rows >= MOST_SHUT_ROWS) {
                return false;
            }
            lows[rows] = low;
            highs[rows] = high;
            rows++;
            return true;
        }

        boolean isShutIn(int minute) {
            for (int i = 0; i < rows; i++) {
                if (within(minute, lows[i], highs[i])) {
                    return true;
                }
            }
            return false;
        }
    }

    /** The TAPE, the text in force, and what a GROUP pays by it. */
    private static final class FeeDesk {
        final Tape tape = new Tape();
        private final Tokens tokens = new Tokens();
        private final Parser parser = new Parser(tokens);
        FeeText current = new FeeText();
        // A text is read into this one, so that a faulty one leaves the text in force as it was.
        private FeeText spare = new FeeText();

        int readTape() {
            tokens.takeTape(tape);
            spare.clear();
            for (int line = 0; line <= MOST_LINES && tokens.kind != END; line++) {
                if (!parser.readLine(spare)) {
                    return parser.fault;
                }
            }
            FeeText old = current;
            current = spare;
            spare = old;
            return 0;
        }

        int feeOf(Group landed) {
            for (int line = 0; line < current.lines; line++) {
                if (current.valueOfLine(line, landed) != 0) {
                    return current.fees[line];
                }
            }
            return 0;
        }
    }

    private static final class Tape {
        final char[] signs = new char[TAPE_LENGTH];
        int length;

        void takeBytes(long bytes) {
            for (int shift = 56; shift >= 0; shift -= 8) {
                takeSign((int) (bytes >>> shift) & 255);
            }
        }

        private void takeSign(int sign) {
            if ((sign == 10 || within(sign, 32, 126)) && length < TAPE_LENGTH) {
                signs[length] = (char) sign;
                length++;
            }
        }

        boolean has(String word, int place, int wordLength) {
            if (word.length() != wordLength || place + wordLength > length) {
                return false;
            }
            for (int i = 0; i < wordLength; i++) {
                if (word.charAt(i) != signs[place + i]) {
                    return false;
                }
            }
            return true;
        }
    }

    /** The tokens of a TAPE, the end among them, and at which of them the reading stands. */
    private static final class Tokens {
        private final int[] kinds = new int[TAPE_LENGTH + 1];
        private final int[] places = new int[TAPE_LENGTH + 1];
        private final int[] values = new int[TAPE_LENGTH + 1];
        private int size;
        private int next;
        // Of the token at which the reading stands.
        int kind;
        int place;
        int value;

        void step() {
            if (next < size) {
                kind = kinds[next];
                place = places[next];
                value = values[next];
                next++;
            }
        }

        void takeTape(Tape tape) {
            size = 0;
            int sign = 0;
            for (int i = 0; i < TAPE_LENGTH && sign < tape.length; i++) {
                sign += isBlank(tape.signs[sign]) ? 1 : takeToken(tape, sign);
            }
            put(END, tape.length, 0);
            tape.length = 0;
            next = 0;
            step();
        }

        /** Answers the token's length, which is 1 at least. */
        private int takeToken(Tape tape, int begin) {
            int length = 1;
            if (isLetter(tape.signs[begin])) {
                while (begin + length < tape.length && isLetter(tape.signs[begin + length])) {
                    length++;
                }
                put(length > MOST_WORD ? NOTHING : wordKind(tape, begin, length), begin, 0);
            } else if (isDigit(tape.signs[begin])) {
                int number = tape.signs[begin] - '0';
                while (begin + length < tape.length && isDigit(tape.signs[begin + length])) {
                    number = 10 * number + tape.signs[begin + length] - '0';
                    length++;
                }
                put(length > MOST_DIGITS ? NOTHING : NUMBER, begin, number);
            } else {
                put(markKind(tape.signs[begin]), begin, 0);
            }
            return length;
        }

        private void put(int newKind, int newPlace, int newValue) {
            if (size <= TAPE_LENGTH) {
                kinds[size] = newKind;
                places[size] = newPlace;
                values[size] = newValue;
                size++;
            }
        }

        private static int wordKind(Tape tape, int begin, int length) {
            if (tape.has("fee", begin, length)) {
                return FEE;
            } else if (tape.has("when", begin, length)) {
                return WHEN;
            } else if (tape.has("and", begin, length)) {
                return AND;
            } else if (tape.has("guests", begin, length)) {
                return GUESTS;
            } else if (tape.has("tour", begin, length)) {
                return TOUR;
            } else if (tape.has("hour", begin, length)) {
                return HOUR;
            } else if (tape.has("rank", begin, length)) {
                return RANK;
            } else if (tape.has("ship", begin, length)) {
                return SHIP;
            }
            return tape.has("landed", begin, length) ? LANDED : NOTHING;
        }

        private static int markKind(char sign) {
            switch (sign) {
                case '(':
                    return OPEN;
                case ')':
                    return CLOSE;
                case '<':
                    return LESS;
                case '=':
                    return EQUAL;
                case '+':
                    return PLUS;
                case '-':
                    return MINUS;
                case ';':
                    return SEMICOLON;
                default:
                    return NOTHING;
            }
        }

        private static boolean isBlank(char sign) {
            return sign == 10 || sign == 32;
        }

        private static boolean isLetter(char sign) {
            return sign >= 'a' && sign <= 'z';
        }

        private static boolean isDigit(char sign) {
            return sign >= '0' && sign <= '9';
        }
    }

    /** Reads a TEXT; each method answers whether what it read was right, and has noted the FAULT if not. */
    private static final class Parser {
        private final Tokens tokens;
        private FeeText into;
        int fault;

        Parser(Tokens tokens) {
            this.tokens = tokens;
        }

        boolean readLine(FeeText target) {
            into = target;
            if (tokens.kind == FEE && into.lines >= MOST_LINES) {
                return fail(TOO_MUCH);
            }
            if (!expect(FEE)) {
                return false;
            }
            int fee = tokens.value;
            if (tokens.kind == NUMBER && fee > MOST_FEE) {
                return fail(WRONG_FEE);
            }
            if (expect(NUMBER) && expect(WHEN) && readAll(0) && expect(SEMICOLON)) {
                into.endLine(fee);
                return true;
            }
            return false;
        }

        private boolean fail(int kind) {
            fault = kind + 16 * tokens.place;
            return false;
        }

        private boolean expect(int kind) {
            if (tokens.kind != kind) {
                return fail(WRONG_TOKEN);
            }
            tokens.step();
            return true;
        }

        private boolean readAll(int depth) {
            boolean right = readTest(depth);
            for (int i = 0; i < TAPE_LENGTH && right && tokens.kind == AND; i++) {
                tokens.step();
                right = readTest(depth);
                into.put(-AND);
            }
            return right;
        }

        private boolean readTest(int depth) {
            boolean right = readSum(depth);
            int sign = tokens.kind;
            if (right && (sign == LESS || sign == EQUAL)) {
                tokens.step();
                right = readSum(depth);
                into.put(-sign);
            }
            return right;
        }

        private boolean readSum(int depth) {
            boolean right = readPart(depth);
            int sign = tokens.kind;
            for (int i = 0; i < TAPE_LENGTH && right && (sign == PLUS || sign == MINUS); i++) {
                tokens.step();
                right = readPart(depth);
                into.put(-sign);
                sign = tokens.kind;
            }
            return right;
        }

        private boolean readPart(int depth) {
            int kind = tokens.kind;
            if (kind != NUMBER && kind != OPEN && kind < GUESTS) {
                return fail(WRONG_TOKEN);
            }
            if (depth >= MOST_WITHIN) {
                return fail(TOO_MUCH);
            }
            int value = tokens.value;
            tokens.step();
            if (kind != OPEN) {
                into.put(kind == NUMBER ? value : -kind);
                return true;
            }
            if (!readAll(depth + 1)) {
                return false;
            }
            if (tokens.kind != CLOSE) {
                return fail(WRONG_TOKEN);
            }
            tokens.step();
            return true;
        }
    }

    /** The lines of a text, each as a run of code for a stack: a number puts itself on, a negative kind works. */
    private static final class FeeText {
        private final int[] code = new int[TAPE_LENGTH];
        private final int[] ends = new int[MOST_LINES];
        private final int[] stack = new int[STACK_LENGTH];
        private int length;
        private int height;
        final int[] fees = new int[MOST_LINES];
        int lines;

        void clear() {
            length = 0;
            lines = 0;
        }

        void put(int numberOrKind) {
            if (length < TAPE_LENGTH) {
                code[length] = numberOrKind;
                length++;
            }
        }

        void endLine(int fee) {
            if (lines < MOST_LINES) {
                fees[lines] = fee;
                ends[lines] = length;
                lines++;
            }
        }

        int valueOfLine(int line, Group landed) {
            height = 0;
            int begin = line == 0 ? 0 : ends[line - 1];
            for (int i = begin; i < ends[line]; i++) {
                int kind = -code[i];
                if (kind <= 0) {
                    push(code[i]);
                } else if (kind >= GUESTS) {
                    push(landed.valueOf(kind));
                } else {
                    int right = pop();
                    int left = pop();
                    push(join(kind, left, right));
                }
            }
            return pop();
        }

        private void push(int value) {
            if (height < STACK_LENGTH) {
                stack[height] = value;
                height++;
            }
        }

        private int pop() {
            if (height <= 0) {
                return 0;
            }
            height--;
            return stack[height];
        }

        private static int join(int kind, int left, int right) {
            switch (kind) {
                case PLUS:
                    return left + right;
                case MINUS:
                    return left - right;
                case LESS:
                    return left < right ? 1 : 0;
                case EQUAL:
                    return left == right ? 1 : 0;
                default:
                    return left != 0 && right != 0 ? 1 : 0;
            }
        }
    }

    private static final class Guides {
        private static final int ALL_SETS = 1 << MOST_GUIDES;

        private final int[] tongues = new int[MOST_GUIDES];
        private int known;
        // Most seats of the TOURS from one on, by that TOUR and the set of GUIDES taken ahead of it. TOURS are
        // never taken away, so the row behind the last one is as it was made: all 0.
        private final int[] most = new int[(MOST_TOURS + 1) * ALL_SETS];
        final int[] chosen = new int[MOST_TOURS];

        Guides() {
            for (int i = 0; i < MOST_TOURS; i++) {
                chosen[i] = NONE;
            }
        }

        int add(int spoken) {
            if (known >= MOST_GUIDES) {
                return NONE;
            }
            tongues[known] = spoken;
            known++;
            return known - 1;
        }

        int planBest(Tour[] tours, int tourCount) {
            fillMost(tours, tourCount);
            int taken = 0;
            for (int i = 0; i < tourCount; i++) {
                chosen[i] = leastBest(i, tours[i], taken);
                if (chosen[i] != NONE) {
                    taken |= 1 << chosen[i];
                }
            }
            return most[0];
        }

        private void fillMost(Tour[] tours, int tourCount) {
            for (int i = tourCount - 1; i >= 0; i--) {
                for (int taken = 0; taken < 1 << known; taken++) {
                    int best = most[(i + 1) * ALL_SETS + taken];
                    for (int guide = 0; guide < known; guide++) {
                        if (isFree(guide, taken, tours[i])) {
                            best = Math.max(best, seatsWith(guide, i, tours[i], taken));
                        }
                    }
                    most[i * ALL_SETS + taken] = best;
                }
            }
        }

        private int leastBest(int number, Tour tour, int taken) {
            for (int guide = 0; guide < known; guide++) {
                if (isFree(guide, taken, tour)
                        && seatsWith(guide, number, tour, taken) == most[number * ALL_SETS + taken]) {
                    return guide;
                }
            }
            return NONE;
        }

        private boolean isFree(int guide, int taken, Tour tour) {
            return (taken >> guide & 1) == 0 && (tongues[guide] >> tour.tongue & 1) == 1;
        }

        private int seatsWith(int guide, int number, Tour tour, int taken) {
            return tour.seats + most[(number + 1) * ALL_SETS + (taken | 1 << guide)];
        }
    }
}
