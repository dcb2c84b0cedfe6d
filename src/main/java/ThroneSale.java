/**
 * The throne to whoever bids most a man: an empire that a text tells, its sales and its days, and what can be
 * asked of them. Every row is made with the object and used again, so that no call makes anything new.
 */
public final class ThroneSale {
    /** None. */
    public static final int NONE = -1;

    private static final int MOST_RULES = 6;
    private static final int MOST_IMAGES = 4;
    private static final int MOST_AHEAD = 200;
    private static final int LONGEST_HOLD = 60;
    private static final int LAST_DAY = 999;
    private static final int MOST_DRAWN = 20;

    private final Tape tape = new Tape();
    private final EmpireReader empireReader = new EmpireReader(tape);
    private final RuleReader ruleReader = new RuleReader(tape);
    private final Rule[] rules = new Rule[MOST_RULES];
    private int ruleCount;
    private final Realm realm = new Realm();
    private final Realm[] images = new Realm[MOST_IMAGES];
    private final boolean[] imageMade = new boolean[MOST_IMAGES];
    private final Auction auction = new Auction();
    private final Forecast forecast = new Forecast();
    private final Inquiry inquiry = new Inquiry();
    private final March march = new March();

    public ThroneSale() {
        for (int i = 0; i < MOST_RULES; i++) {
            rules[i] = new Rule();
        }
        for (int k = 0; k < MOST_IMAGES; k++) {
            images[k] = new Realm();
        }
    }

    public int feed(int a, int b, int c, int d, int e) {
        if (tape.length + 20 > Tape.MOST_BYTES) {
            return NONE;
        }
        tape.add(a);
        tape.add(b);
        tape.add(c);
        tape.add(d);
        tape.add(e);
        return tape.length;
    }

    public int end(int n) {
        if (n < 0 || n > tape.length) {
            return NONE;
        }
        tape.length = n;
        return n;
    }

    public int empire() {
        int fault = empireReader.read();
        tape.length = 0;
        if (fault != 0) {
            return -2 - fault;
        }
        realm.begin(empireReader.draft);
        return realm.empire.count[Empire.GUARD];
    }

    public int rule() {
        if (ruleCount >= MOST_RULES) {
            return NONE;
        }
        int fault = ruleReader.read();
        tape.length = 0;
        if (fault != 0) {
            return -2 - fault;
        }
        rules[ruleCount].copyFrom(ruleReader.draft);
        ruleCount++;
        return ruleCount - 1;
    }

    public int force(int rule) {
        if (rule < NONE || rule >= ruleCount) {
            return -2;
        }
        int was = realm.inForce;
        realm.inForce = rule;
        return was;
    }

    public int band(int band, int what) {
        if (!realm.empire.has(Empire.GUARD, band)) {
            return NONE;
        }
        switch (what) {
            case 0:
                return realm.empire.told[Empire.MEN][band];
            case 1:
                return realm.empire.told[Empire.LEAST][band];
            case 2:
                return realm.empire.told[Empire.PATIENCE][band];
            case 3:
                return realm.state.left >> band & 1;
            default:
                return NONE;
        }
    }

    public int bidder(int bidder, int what) {
        if (!realm.empire.has(Empire.BIDDER, bidder)) {
            return NONE;
        }
        switch (what) {
            case 0:
                return realm.state.purse[bidder];
            case 1:
                return realm.empire.told[Empire.DARE][bidder];
            case 2:
                return realm.state.ruler == bidder ? 1 : 0;
            default:
                return NONE;
        }
    }

    public int general(int general, int what) {
        if (!realm.empire.has(Empire.GENERAL, general)) {
            return -2;
        }
        switch (what) {
            case 0:
                return realm.empire.told[Empire.CITY][general];
            case 1:
                return realm.empire.told[Empire.ARMY][general];
            case 2:
                return realm.empire.told[Empire.PRICE][general];
            case 3:
                return realm.state.bribed >> general & 1;
            case 4:
                return realm.state.beaten >> general & 1;
            case 5:
                return realm.state.comesOn(realm.empire, general);
            default:
                return -2;
        }
    }

    public int day() {
        if (!realm.empire.isTold() || realm.state.day >= LAST_DAY) {
            return -2;
        }
        realm.remember();
        realm.state.passDay(realm.empire);
        return realm.state.ruler;
    }

    public int sell() {
        if (!realm.empire.isTold() || realm.state.ruler != NONE) {
            return -2;
        }
        holdSale();
        if (auction.winner == NONE) {
            return NONE;
        }
        realm.remember();
        realm.state.crown(auction.winner, auction.price);
        return auction.winner;
    }

    public int bribe(int general) {
        if (!realm.empire.has(Empire.GENERAL, general) || !realm.state.isFree(general)
                || realm.state.treasury < realm.empire.told[Empire.PRICE][general]) {
            return NONE;
        }
        realm.remember();
        realm.state.treasury -= realm.empire.told[Empire.PRICE][general];
        realm.state.bribed |= 1 << general;
        return realm.state.treasury;
    }

    public int thin() {
        if (!realm.empire.isTold() || !realm.state.canThin()) {
            return NONE;
        }
        realm.remember();
        realm.state.thinCoin();
        return realm.state.treasury;
    }

    public int kill() {
        int who = realm.state.ruler;
        if (who == NONE) {
            return NONE;
        }
        realm.remember();
        realm.state.killRuler();
        return who;
    }

    public int undo() {
        return realm.takeBack() ? realm.pastCount : -2;
    }

    public int sale(int what) {
        if (!realm.empire.isTold() || what < 0 || what > 2) {
            return -2;
        }
        holdSale();
        if (what == 0) {
            return auction.winner;
        }
        return what == 1 ? auction.price : auction.asked;
    }

    public int ahead(int n, int what) {
        if (!realm.empire.isTold() || n < 0 || n > MOST_AHEAD) {
            return -2;
        }
        State then = forecast.after(realm.empire, realm.state, n);
        switch (what) {
            case 0:
                return then.ruler;
            case 1:
                return then.menOf(realm.empire);
            case 2:
                return then.paid;
            case 3:
                return then.treasury;
            default:
                return -2;
        }
    }

    public int fall(int what) {
        if (what < 0 || what > 1 || realm.state.ruler == NONE) {
            return -3;
        }
        int days = forecast.daysHeld(realm.empire, realm.state, MOST_AHEAD);
        if (days >= MOST_AHEAD) {
            return -2;
        }
        return what == 0 ? realm.state.day + days : forecast.lastRuler();
    }

    public int reign(int bidder, int what) {
        if (!realm.empire.has(Empire.BIDDER, bidder) || what < 0 || what > 1 || realm.state.ruler != NONE) {
            return NONE;
        }
        forecast.chooseDare(realm.empire, realm.state, bidder);
        return what == 0 ? forecast.choice : forecast.days;
    }

    public int bribes(int what) {
        if (what < 0 || what > 1 || realm.state.ruler == NONE) {
            return NONE;
        }
        forecast.chooseBribes(realm.empire, realm.state);
        return what == 0 ? forecast.choice : forecast.days;
    }

    public int way(int from, int to, int what) {
        if (!realm.empire.isTold() || !Empire.isCity(from) || !Empire.isCity(to) || what < 0 || what > 1) {
            return -3;
        }
        int days = realm.empire.wayDays(from, to);
        if (days == NONE) {
            return -2;
        }
        return what == 0 ? days : realm.empire.nextCity(from, to);
    }

    public int first(int what) {
        if (!realm.empire.isTold() || what < 0 || what > 1) {
            return -3;
        }
        march.gather(realm.empire, realm.state);
        if (march.size == 0) {
            return -2;
        }
        int who = march.order[0];
        return what == 0 ? who : realm.empire.marchDays(who);
    }

    public int rests(int what) {
        if (!realm.empire.isTold() || what < 0 || what > 1) {
            return NONE;
        }
        march.gather(realm.empire, realm.state);
        march.countRests();
        return what == 0 ? march.sets : march.leastSet;
    }

    public int holds(int n) {
        if (n < 1 || n > LONGEST_HOLD || realm.state.ruler == NONE) {
            return NONE;
        }
        return forecast.leastTreasury(realm.empire, realm.state, n);
    }

    public int halves(int what) {
        if (!realm.empire.isTold() || what < 0 || what > 1) {
            return NONE;
        }
        forecast.halveGuards(realm.empire, realm.state);
        return what == 0 ? forecast.difference : forecast.choice;
    }

    public int thinnest(int n) {
        if (n < 1 || n > LONGEST_HOLD || realm.state.ruler == NONE) {
            return NONE;
        }
        return forecast.mostThinnings(realm.empire, realm.state, n);
    }

    public int log(int n, int who) {
        if (n == NONE) {
            realm.logCount = 0;
            return 0;
        }
        return realm.addLog(n, who) ? realm.logCount : -2;
    }

    public int ruled(int what) {
        if (!realm.empire.isTold() || what < 0 || what > 1) {
            return -3;
        }
        inquiry.followAll(realm, rules, ruleCount);
        return what == 0 ? inquiry.agreeing : inquiry.first;
    }

    public int look(int what) {
        if (!realm.empire.isTold() || what < 0 || what > 1) {
            return NONE;
        }
        inquiry.followAll(realm, rules, ruleCount);
        if (inquiry.agreeing == 0) {
            return -2;
        }
        inquiry.chooseDay();
        return what == 0 ? inquiry.day : inquiry.alike;
    }

    public int seed(int x) {
        if (x < 0) {
            return NONE;
        }
        int was = realm.x;
        realm.x = x;
        return was;
    }

    public int reigns(int m, int bidder, int what) {
        if (m < 1 || m > MOST_DRAWN || !realm.empire.has(Empire.BIDDER, bidder) || what < 0 || what > 1) {
            return NONE;
        }
        forecast.drawReigns(realm, m, bidder);
        return what == 0 ? forecast.wins : forecast.days;
    }

    public int count(int what) {
        switch (what) {
            case 0:
                return realm.state.treasury;
            case 1:
                return realm.empire.told[Empire.JUMP][0];
            case 2:
                return realm.empire.count[Empire.GUARD];
            case 3:
                return realm.empire.count[Empire.BIDDER];
            case 4:
                return realm.empire.count[Empire.GENERAL];
            case 5:
                return realm.empire.count[Empire.ROAD];
            case 6:
                return ruleCount;
            case 7:
                return realm.inForce;
            case 8:
                return realm.state.day;
            case 9:
                return realm.state.ruler;
            case 10:
                return realm.state.menOf(realm.empire);
            case 11:
                return realm.state.paid;
            case 12:
                return realm.state.fine;
            case 13:
                return realm.state.sold;
            case 14:
                return realm.logCount;
            case 15:
                return realm.pastCount;
            case 16:
                return realm.x;
            case 17:
                return tape.length;
            default:
                return NONE;
        }
    }

    public int image(int k) {
        if (k < 0 || k >= MOST_IMAGES) {
            return NONE;
        }
        images[k].copyFrom(realm);
        imageMade[k] = true;
        return realm.state.day;
    }

    public int back(int k) {
        if (k < 0 || k >= MOST_IMAGES || !imageMade[k]) {
            return NONE;
        }
        realm.copyFrom(images[k]);
        return realm.state.day;
    }

    private void holdSale() {
        Rule rule = realm.inForce >= 0 && realm.inForce < ruleCount ? rules[realm.inForce] : null;
        auction.takeDares(realm.empire);
        auction.hold(realm.empire, realm.state, rule);
    }

    /** The bytes that were fed; split into pieces (words, numbers, signs), along which a reader goes. */
    private static final class Tape {
        static final int MOST_BYTES = 400;

        /** Kinds of pieces that are no single byte; every other kind is the byte itself. */
        static final int END = -1;
        static final int WORD = -2;
        static final int NUMBER = -3;
        static final int AT_MOST = -4;
        static final int AT_LEAST = -5;

        /** All words by their numbers: the first five open a CLAUSE of an EMPIRE, the fifth to DAY are VALUES. */
        private static final String WORDS =
                "empire guard general road bidder purse dare high holder jump men treasury turn out day bid if or and not";
        static final int BIDDER = 4;
        static final int PURSE = 5;
        static final int DARE = 6;
        static final int HIGH = 7;
        static final int HOLDER = 8;
        static final int JUMP = 9;
        static final int MEN = 10;
        static final int TREASURY = 11;
        static final int TURN = 12;
        static final int OUT = 13;
        static final int DAY = 14;
        static final int BID = 15;
        static final int IF = 16;
        static final int OR = 17;
        static final int AND = 18;
        static final int NOT = 19;

        /** Faults by their numbers in the document. */
        static final int MISPLACED = 0;
        static final int BAD_NUMBER = 1;
        static final int TOO_DEEP = 2;
        static final int TOO_MANY_PARTS = 3;
        static final int BAD_CLAUSE = 4;

        private static final int MOST_DIGITS = 5;

        private final int[] bytes = new int[MOST_BYTES];
        int length;
        private final int[] kinds = new int[MOST_BYTES + 1];
        private final int[] numbers = new int[MOST_BYTES + 1];
        private final int[] places = new int[MOST_BYTES + 1];
        private int pieces;
        private int at;
        /** The piece that is read now: its kind; the number of a word (NONE: no such), a NUMBER (NONE: too long). */
        int kind;
        int number;
        int fault;

        void add(int four) {
            for (int shift = 24; shift >= 0 && length < MOST_BYTES; shift -= 8) {
                bytes[length] = four >> shift & 255;
                length++;
            }
        }

        void open() {
            fault = 0;
            pieces = 0;
            int from = 0;
            while (from < length) {
                int to = from + 1;
                if (isIn(from, 'a', 'z')) {
                    to = runEnd(from, 'a', 'z');
                    put(WORD, wordAt(from, to), from);
                } else if (isIn(from, '0', '9')) {
                    to = runEnd(from, '0', '9');
                    put(NUMBER, numberAt(from, to), from);
                } else if (isOpenAngle(from) && isIn(to, '=', '=')) {
                    put(bytes[from] == '<' ? AT_MOST : AT_LEAST, 0, from);
                    to++;
                } else if (bytes[from] != ' ') {
                    put(bytes[from], 0, from);
                }
                from = Math.max(to, from + 1);
            }
            put(END, 0, length);
            at = -1;
            advance();
        }

        private boolean isIn(int place, char low, char high) {
            return place >= 0 && place < length && bytes[place] >= low && bytes[place] <= high;
        }

        private boolean isOpenAngle(int place) {
            return isIn(place, '<', '<') || isIn(place, '>', '>');
        }

        private int runEnd(int from, char low, char high) {
            int to = from;
            while (to < length && isIn(to, low, high)) {
                to++;
            }
            return to;
        }

        private void put(int newKind, int newNumber, int place) {
            if (pieces <= MOST_BYTES) {
                kinds[pieces] = newKind;
                numbers[pieces] = newNumber;
                places[pieces] = place;
                pieces++;
            }
        }

        private int numberAt(int from, int to) {
            if (to - from > MOST_DIGITS) {
                return NONE;
            }
            int sum = 0;
            for (int i = from; i < to; i++) {
                sum = sum * 10 + bytes[i] - '0';
            }
            return sum;
        }

        private int wordAt(int from, int to) {
            int word = 0;
            int start = 0;
            for (int i = 0; i <= WORDS.length(); i++) {
                if (i == WORDS.length() || WORDS.charAt(i) == ' ') {
                    if (i - start == to - from && equalsPart(start, i, from)) {
                        return word;
                    }
                    word++;
                    start = i + 1;
                }
            }
            return NONE;
        }

        private boolean equalsPart(int start, int end, int from) {
            for (int i = start; i < end; i++) {
                if (!isIn(from + i - start, WORDS.charAt(i), WORDS.charAt(i))) {
                    return false;
                }
            }
            return true;
        }

        /** To the next piece; the end is not left any more. */
        void advance() {
            if (at + 1 < pieces) {
                at++;
                kind = kinds[at];
                number = numbers[at];
            }
        }

        boolean isWord(int word) {
            return kind == WORD && number == word;
        }

        /** Marks a fault at the piece that is read; false, so that who reads can hand it on. */
        boolean fail(int what) {
            fault = 1 + 8 * (at >= 0 ? places[at] : 0) + what;
            return false;
        }

        /** Goes over the sign between two CLAUSES; false at the end, or where there is no such sign. */
        boolean nextClause() {
            if (kind == ';') {
                advance();
                return true;
            }
            return kind != END && fail(MISPLACED);
        }
    }

    /** An EMPIRE as the text told it: a column for each NUMBER of each sort of CLAUSE, and the shortest ways. */
    private static final class Empire {
        /** Sorts of CLAUSES by the numbers of their words. */
        static final int HEAD = 0;
        static final int GUARD = 1;
        static final int GENERAL = 2;
        static final int ROAD = 3;
        static final int BIDDER = 4;
        static final int SORTS = 5;

        /** Three columns for each sort, in the order told. */
        static final int TREASURY = 0;
        static final int JUMP = 1;
        static final int MEN = 3;
        static final int LEAST = 4;
        static final int PATIENCE = 5;
        static final int CITY = 6;
        static final int ARMY = 7;
        static final int PRICE = 8;
        static final int FROM = 9;
        static final int TO = 10;
        static final int DAYS = 11;
        static final int PURSE = 12;
        static final int DARE = 13;
        static final int COLUMNS = 15;

        static final int CITIES = 8;
        static final int MOST_ROWS = 8;
        static final int MOST_BIDDERS = 4;
        static final int MOST_GENERALS = 4;
        /** More than the longest way could have (7 ROADS of 30 DAYS). */
        private static final int NO_WAY = 1000;

        final int[] count = new int[SORTS];
        final int[][] told = new int[COLUMNS][MOST_ROWS];
        private final int[][] ways = new int[CITIES][CITIES];

        boolean isTold() {
            return count[HEAD] > 0;
        }

        boolean has(int sort, int number) {
            return number >= 0 && number < count[sort];
        }

        static boolean isCity(int city) {
            return city >= 0 && city < CITIES;
        }

        void clear() {
            for (int sort = 0; sort < SORTS; sort++) {
                count[sort] = 0;
            }
        }

        void copyFrom(Empire other) {
            System.arraycopy(other.count, 0, count, 0, SORTS);
            for (int i = 0; i < COLUMNS; i++) {
                System.arraycopy(other.told[i], 0, told[i], 0, MOST_ROWS);
            }
            for (int i = 0; i < CITIES; i++) {
                System.arraycopy(other.ways[i], 0, ways[i], 0, CITIES);
            }
        }

        void findWays() {
            for (int a = 0; a < CITIES; a++) {
                for (int b = 0; b < CITIES; b++) {
                    ways[a][b] = a == b ? 0 : NO_WAY;
                }
            }
            for (int i = 0; i < count[ROAD]; i++) {
                int a = told[FROM][i];
                int b = told[TO][i];
                if (isCity(a) && isCity(b)) {
                    ways[a][b] = Math.min(ways[a][b], told[DAYS][i]);
                    ways[b][a] = ways[a][b];
                }
            }
            for (int over = 0; over < CITIES; over++) {
                for (int a = 0; a < CITIES; a++) {
                    for (int b = 0; b < CITIES; b++) {
                        ways[a][b] = Math.min(ways[a][b], ways[a][over] + ways[over][b]);
                    }
                }
            }
        }

        /** NONE: there is no way. */
        int wayDays(int from, int to) {
            return ways[from][to] < NO_WAY ? ways[from][to] : NONE;
        }

        /** The least of the next CITIES on shortest ways; NONE: one is there, or there is no way. */
        int nextCity(int from, int to) {
            int best = NONE;
            for (int i = 0; i < count[ROAD]; i++) {
                int other = otherEnd(i, from);
                if (isCity(other) && told[DAYS][i] + ways[other][to] == ways[from][to]
                        && (best == NONE || other < best)) {
                    best = other;
                }
            }
            return best;
        }

        private int otherEnd(int road, int city) {
            if (told[FROM][road] == city) {
                return told[TO][road];
            }
            return told[TO][road] == city ? told[FROM][road] : NONE;
        }

        /** DAYS until a GENERAL is there after a SALE, the news' way and their own; NONE: never. */
        int marchDays(int general) {
            int city = told[CITY][general];
            return isCity(city) && ways[0][city] < NO_WAY ? 2 * ways[0][city] : NONE;
        }
    }

    /** Reads the text of an EMPIRE. */
    private static final class EmpireReader {
        private static final int MOST_CLAUSES = 40;
        private static final int[] NUMBERS = {2, 3, 3, 3, 2};
        private static final int[] MOST = {1, 6, 4, 8, 4};
        private static final int[] LOW = {0, 1, 0, 1, 0, 0, 0, 1, 0, 0, 0, 1, 0, 0, 0};
        private static final int[] HIGH = {9999, 9, 0, 30, 100, 60, 7, 200, 999, 7, 7, 30, 9999, 99, 0};

        private final Tape tape;
        final Empire draft = new Empire();

        EmpireReader(Tape tape) {
            this.tape = tape;
        }

        /** The FAULT, 0 if there is none. */
        int read() {
            draft.clear();
            tape.open();
            boolean goesOn = true;
            for (int clause = 0; goesOn && clause <= MOST_CLAUSES; clause++) {
                goesOn = readClause(clause) && tape.nextClause();
            }
            if (tape.fault == 0) {
                draft.findWays();
            }
            return tape.fault;
        }

        private boolean readClause(int clause) {
            int sort = tape.kind == Tape.WORD ? tape.number : NONE;
            if (sort < 0 || sort >= Empire.SORTS) {
                return tape.fail(Tape.MISPLACED);
            }
            boolean isHead = sort == Empire.HEAD;
            if (clause >= MOST_CLAUSES || isHead != (clause == 0) || draft.count[sort] >= MOST[sort]) {
                return tape.fail(Tape.BAD_CLAUSE);
            }
            tape.advance();
            for (int i = 0; i < NUMBERS[sort]; i++) {
                if (!readNumber(3 * sort + i, draft.count[sort])) {
                    return false;
                }
            }
            draft.count[sort]++;
            return true;
        }

        private boolean readNumber(int column, int row) {
            if (tape.kind != Tape.NUMBER) {
                return tape.fail(Tape.MISPLACED);
            }
            boolean nowhere = column == Empire.TO && tape.number == draft.told[Empire.FROM][row];
            if (tape.number < LOW[column] || tape.number > HIGH[column] || nowhere) {
                return tape.fail(Tape.BAD_NUMBER);
            }
            draft.told[column][row] = tape.number;
            tape.advance();
            return true;
        }
    }

    /** A RULE as steps for a stack: a sign stands behind its two parts, and each CLAUSE ends with BID or BID_IF. */
    private static final class Rule {
        /** Steps that are no sign of the text; signs are the kinds of their pieces. */
        static final int NUMBER = 256;
        static final int WORD = 257;
        static final int NOT = 258;
        static final int AND = 259;
        static final int OR = 260;
        static final int BID = 261;
        static final int BID_IF = 262;

        /** Each step comes from a byte of its own. */
        private static final int MOST_STEPS = Tape.MOST_BYTES;

        final int[] steps = new int[MOST_STEPS];
        final int[] values = new int[MOST_STEPS];
        int size;

        void add(int step, int value) {
            if (size < MOST_STEPS) {
                steps[size] = step;
                values[size] = value;
                size++;
            }
        }

        void copyFrom(Rule other) {
            size = other.size;
            System.arraycopy(other.steps, 0, steps, 0, MOST_STEPS);
            System.arraycopy(other.values, 0, values, 0, MOST_STEPS);
        }
    }

    /** Reads the text of a RULE. */
    private static final class RuleReader {
        private static final int MOST_CLAUSES = 12;
        private static final int MOST_PARTS = 60;
        private static final int DEEPEST = 10;

        private final Tape tape;
        final Rule draft = new Rule();
        /** VALUES, and FACTS made of a SIGN. */
        private int parts;

        RuleReader(Tape tape) {
            this.tape = tape;
        }

        /** The FAULT, 0 if there is none. */
        int read() {
            draft.size = 0;
            parts = 0;
            tape.open();
            boolean goesOn = true;
            for (int clause = 0; goesOn && clause <= MOST_CLAUSES; clause++) {
                goesOn = openClause(clause) && readSum();
                if (goesOn && tape.isWord(Tape.IF)) {
                    tape.advance();
                    goesOn = readTest(0);
                    draft.add(Rule.BID_IF, 0);
                } else {
                    draft.add(Rule.BID, 0);
                }
                goesOn = goesOn && tape.nextClause();
            }
            return tape.fault;
        }

        private boolean openClause(int clause) {
            if (!tape.isWord(Tape.BID)) {
                return tape.fail(Tape.MISPLACED);
            }
            if (clause >= MOST_CLAUSES) {
                return tape.fail(Tape.BAD_CLAUSE);
            }
            tape.advance();
            return true;
        }

        private boolean readTest(int depth) {
            boolean and = false;
            boolean or = false;
            for (int facts = 0; facts < Tape.MOST_BYTES; facts++) {
                if (!readFact(depth)) {
                    return false;
                }
                if (and) {
                    draft.add(Rule.AND, 0);
                }
                and = tape.isWord(Tape.AND);
                if (!and) {
                    if (or) {
                        draft.add(Rule.OR, 0);
                    }
                    or = tape.isWord(Tape.OR);
                    if (!or) {
                        return true;
                    }
                }
                tape.advance();
            }
            return tape.fail(Tape.MISPLACED);
        }

        private boolean readFact(int depth) {
            boolean not = tape.isWord(Tape.NOT);
            if (!not && tape.kind != '[') {
                return readComparison();
            }
            if (depth >= DEEPEST) {
                return tape.fail(Tape.TOO_DEEP);
            }
            tape.advance();
            if (not) {
                if (!readFact(depth + 1)) {
                    return false;
                }
                draft.add(Rule.NOT, 0);
                return true;
            }
            if (!readTest(depth + 1)) {
                return false;
            }
            if (tape.kind != ']') {
                return tape.fail(Tape.MISPLACED);
            }
            tape.advance();
            return true;
        }

        private boolean readComparison() {
            if (!readSum()) {
                return false;
            }
            int sign = tape.kind;
            if (sign != '<' && sign != '=' && sign != '>' && sign != Tape.AT_MOST && sign != Tape.AT_LEAST) {
                return tape.fail(Tape.MISPLACED);
            }
            if (parts >= MOST_PARTS) {
                return tape.fail(Tape.TOO_MANY_PARTS);
            }
            parts++;
            tape.advance();
            if (!readSum()) {
                return false;
            }
            draft.add(sign, 0);
            return true;
        }

        private boolean readSum() {
            int times = 0;
            int plus = 0;
            for (int values = 0; values < Tape.MOST_BYTES; values++) {
                if (!readValue()) {
                    return false;
                }
                if (times != 0) {
                    draft.add(times, 0);
                }
                times = tape.kind == '*' || tape.kind == '/' || tape.kind == '%' ? tape.kind : 0;
                if (times == 0) {
                    if (plus != 0) {
                        draft.add(plus, 0);
                    }
                    plus = tape.kind == '+' || tape.kind == '-' ? tape.kind : 0;
                    if (plus == 0) {
                        return true;
                    }
                }
                tape.advance();
            }
            return tape.fail(Tape.MISPLACED);
        }

        private boolean readValue() {
            boolean isNumber = tape.kind == Tape.NUMBER;
            boolean isWord = tape.kind == Tape.WORD && tape.number >= Tape.BIDDER && tape.number <= Tape.DAY;
            if (!isNumber && !isWord) {
                return tape.fail(Tape.MISPLACED);
            }
            if (tape.number == NONE) {
                return tape.fail(Tape.BAD_NUMBER);
            }
            if (parts >= MOST_PARTS) {
                return tape.fail(Tape.TOO_MANY_PARTS);
            }
            parts++;
            draft.add(isNumber ? Rule.NUMBER : Rule.WORD, tape.number);
            tape.advance();
            return true;
        }
    }

    /** A SALE from the wall: who has won it, for how much, after how many bids. */
    private static final class Auction {
        private static final int HIGHEST_BID = 999;
        /** More than any SALE needs: 999 bids and 4 who go out, of each round 4 at most. */
        private static final int MOST_TURNS = 8 * HIGHEST_BID;
        /** More than the VALUES that a RULE can have. */
        private static final int STACK = 64;

        final int[] dare = new int[Empire.MOST_BIDDERS];
        int winner;
        int price;
        int asked;
        private int outs;
        private int jump;
        private int men;
        private int treasury;
        private int day;
        private final boolean[] out = new boolean[Empire.MOST_BIDDERS];
        private final int[] purse = new int[Empire.MOST_BIDDERS];
        private final long[] stack = new long[STACK];

        void takeDares(Empire empire) {
            System.arraycopy(empire.told[Empire.DARE], 0, dare, 0, Empire.MOST_BIDDERS);
        }

        /** By the dares that stand here; without a RULE (null) by these alone. */
        void hold(Empire empire, State state, Rule rule) {
            int bidders = empire.count[Empire.BIDDER];
            open(empire, state);
            for (int turn = 0; turn < MOST_TURNS && outs < (winner == NONE ? bidders : bidders - 1); turn++) {
                int bidder = bidders > 0 ? turn % bidders : 0;
                if (!out[bidder] && bidder != winner) {
                    take(bidder, rule == null ? bidByDare(bidder) : bidByRule(bidder, rule));
                }
            }
        }

        private void open(Empire empire, State state) {
            winner = NONE;
            price = 0;
            asked = 0;
            outs = 0;
            jump = empire.told[Empire.JUMP][0];
            men = state.menOf(empire);
            treasury = state.treasury;
            day = state.day;
            for (int i = 0; i < Empire.MOST_BIDDERS; i++) {
                out[i] = false;
                purse[i] = state.purse[i];
            }
        }

        private void take(int bidder, long bid) {
            asked++;
            if (bid >= price + jump && bid <= HIGHEST_BID) {
                price = (int) bid;
                winner = bidder;
            } else {
                out[bidder] = true;
                outs++;
            }
        }

        private long bidByDare(int bidder) {
            return price + jump <= dare[bidder] ? price + jump : 0;
        }

        private long bidByRule(int bidder, Rule rule) {
            int top = 0;
            for (int i = 0; i < rule.size; i++) {
                int step = rule.steps[i];
                if (step == Rule.NUMBER || step == Rule.WORD) {
                    if (top < STACK) {
                        stack[top] = step == Rule.NUMBER ? rule.values[i] : wordOf(bidder, rule.values[i]);
                        top++;
                    }
                } else if (step == Rule.BID || step == Rule.BID_IF) {
                    if (step == Rule.BID || top >= 2 && stack[1] != 0) {
                        return stack[0];
                    }
                    top = 0;
                } else if (step == Rule.NOT) {
                    if (top >= 1) {
                        stack[top - 1] = 1 - stack[top - 1];
                    }
                } else if (top >= 2) {
                    top--;
                    stack[top - 1] = join(step, stack[top - 1], stack[top]);
                }
            }
            return 0;
        }

        private long wordOf(int bidder, int word) {
            switch (word) {
                case Tape.BIDDER:
                    return bidder;
                case Tape.PURSE:
                    return purse[bidder];
                case Tape.DARE:
                    return dare[bidder];
                case Tape.HIGH:
                    return price;
                case Tape.HOLDER:
                    return winner;
                case Tape.JUMP:
                    return jump;
                case Tape.MEN:
                    return men;
                case Tape.TREASURY:
                    return treasury;
                case Tape.TURN:
                    return asked;
                case Tape.OUT:
                    return outs;
                default:
                    return day;
            }
        }

        private static long join(int sign, long a, long b) {
            switch (sign) {
                case '+':
                    return a + b;
                case '-':
                    return a - b;
                case '*':
                    return a * b;
                case '/':
                    return b == 0 ? 0 : a / b;
                case '%':
                    return b == 0 ? 0 : a % b;
                case '<':
                    return a < b ? 1 : 0;
                case Tape.AT_MOST:
                    return a <= b ? 1 : 0;
                case '=':
                    return a == b ? 1 : 0;
                case Tape.AT_LEAST:
                    return a >= b ? 1 : 0;
                case '>':
                    return a > b ? 1 : 0;
                case Rule.AND:
                    return a & b;
                default:
                    return a | b;
            }
        }
    }

    /** How an EMPIRE stands on a DAY. Who reigns is a BIDDER's number, or 10 and a GENERAL's. */
    private static final class State {
        static final int FIRST_GENERAL = 10;
        private static final int FULL_FINE = 100;
        private static final int LEAST_FINE = 10;
        private static final int THINNING = 10;
        private static final int MOST_TREASURY = 99999;

        int treasury;
        int fine = FULL_FINE;
        int day;
        int ruler = NONE;
        int paid;
        int sold = NONE;
        private int bid;
        /** Sets as bits: BANDS that have LEFT, GENERALS who are BRIBED and who are BEATEN. */
        int left;
        int bribed;
        int beaten;
        final int[] purse = new int[Empire.MOST_BIDDERS];

        /** As the text told it. */
        void begin(Empire empire) {
            treasury = empire.told[Empire.TREASURY][0];
            fine = FULL_FINE;
            day = 0;
            ruler = NONE;
            paid = 0;
            sold = NONE;
            bid = 0;
            left = 0;
            bribed = 0;
            beaten = 0;
            System.arraycopy(empire.told[Empire.PURSE], 0, purse, 0, Empire.MOST_BIDDERS);
        }

        void copyFrom(State other) {
            treasury = other.treasury;
            fine = other.fine;
            day = other.day;
            ruler = other.ruler;
            paid = other.paid;
            sold = other.sold;
            bid = other.bid;
            left = other.left;
            bribed = other.bribed;
            beaten = other.beaten;
            System.arraycopy(other.purse, 0, purse, 0, Empire.MOST_BIDDERS);
        }

        /** Men of BANDS that have not LEFT. */
        int menOf(Empire empire) {
            int[] men = empire.told[Empire.MEN];
            int sum = 0;
            for (int band = 0; band < empire.count[Empire.GUARD]; band++) {
                if ((left >> band & 1) == 0) {
                    sum += men[band];
                }
            }
            return sum;
        }

        void crown(int winner, int price) {
            ruler = winner;
            bid = price;
            sold = day;
            paid = 0;
        }

        void killRuler() {
            if (rulesBySale()) {
                purse[ruler] = 0;
            } else if (rulesByArms()) {
                beaten |= 1 << ruler - FIRST_GENERAL;
            }
            ruler = NONE;
        }

        boolean canThin() {
            return fine > LEAST_FINE;
        }

        void thinCoin() {
            int thinner = fine - THINNING;
            if (thinner > 0) {
                treasury = Math.min(treasury * fine / thinner, MOST_TREASURY);
                fine = thinner;
            }
        }

        /** Not BRIBED, not BEATEN, does not reign. */
        boolean isFree(int general) {
            return ((bribed | beaten) >> general & 1) == 0 && ruler != FIRST_GENERAL + general;
        }

        /** NONE: nothing was SOLD, or never. */
        int comesOn(Empire empire, int general) {
            int days = empire.marchDays(general);
            return sold == NONE || days == NONE ? NONE : sold + days;
        }

        void passDay(Empire empire) {
            if (rulesBySale()) {
                payGuards(empire);
                loseGuards(empire);
            }
            if (sold != NONE) {
                for (int general = 0; general < empire.count[Empire.GENERAL]; general++) {
                    if (isFree(general) && comesOn(empire, general) == day) {
                        meet(empire, general, menThere(empire));
                    }
                }
            }
            day++;
        }

        private boolean rulesBySale() {
            return ruler >= 0 && ruler < Empire.MOST_BIDDERS;
        }

        private boolean rulesByArms() {
            return ruler >= FIRST_GENERAL && ruler < FIRST_GENERAL + Empire.MOST_GENERALS;
        }

        private void payGuards(Empire empire) {
            if (paid >= 100 * bid) {
                return;
            }
            int men = menOf(empire);
            if (men == 0 || treasury + purse[ruler] < men) {
                return;
            }
            int fromTreasury = Math.min(treasury, men);
            treasury -= fromTreasury;
            purse[ruler] -= men - fromTreasury;
            paid += fine;
        }

        private void loseGuards(Empire empire) {
            int[] least = empire.told[Empire.LEAST];
            int[] patience = empire.told[Empire.PATIENCE];
            for (int band = 0; band < empire.count[Empire.GUARD]; band++) {
                if (day - sold > patience[band] && paid < least[band] * bid) {
                    left |= 1 << band;
                }
            }
        }

        private void meet(Empire empire, int general, int men) {
            if (empire.told[Empire.ARMY][general] > men) {
                ruler = FIRST_GENERAL + general;
                left = (1 << empire.count[Empire.GUARD]) - 1;
            } else {
                beaten |= 1 << general;
            }
        }

        private int menThere(Empire empire) {
            if (rulesBySale()) {
                return menOf(empire);
            }
            return rulesByArms() ? empire.told[Empire.ARMY][ruler - FIRST_GENERAL] : 0;
        }
    }

    /** All that an IMAGE holds. */
    private static final class Realm {
        private static final int MOST_PAST = 20;
        private static final int MOST_LOGS = 10;
        private static final int LAST_LOG_DAY = 60;

        final Empire empire = new Empire();
        final State state = new State();
        int inForce = NONE;
        int x;
        /** How it stood ahead of the last ACTS, the last one last. */
        private final State[] past = new State[MOST_PAST];
        int pastCount;
        final int[] logDay = new int[MOST_LOGS];
        final int[] logRuler = new int[MOST_LOGS];
        int logCount;

        Realm() {
            for (int i = 0; i < MOST_PAST; i++) {
                past[i] = new State();
            }
        }

        void begin(Empire draft) {
            empire.copyFrom(draft);
            state.begin(empire);
            pastCount = 0;
            logCount = 0;
        }

        void copyFrom(Realm other) {
            empire.copyFrom(other.empire);
            state.copyFrom(other.state);
            inForce = other.inForce;
            x = other.x;
            pastCount = other.pastCount;
            for (int i = 0; i < pastCount; i++) {
                past[i].copyFrom(other.past[i]);
            }
            logCount = other.logCount;
            System.arraycopy(other.logDay, 0, logDay, 0, MOST_LOGS);
            System.arraycopy(other.logRuler, 0, logRuler, 0, MOST_LOGS);
        }

        /** To be called ahead of each ACT. */
        void remember() {
            if (pastCount >= MOST_PAST) {
                State oldest = past[0];
                for (int i = 1; i < MOST_PAST; i++) {
                    past[i - 1] = past[i];
                }
                past[MOST_PAST - 1] = oldest;
                pastCount = MOST_PAST - 1;
            }
            past[pastCount].copyFrom(state);
            pastCount++;
        }

        boolean takeBack() {
            if (pastCount <= 0) {
                return false;
            }
            pastCount--;
            state.copyFrom(past[pastCount]);
            return true;
        }

        boolean addLog(int day, int who) {
            boolean isSomebody = who == NONE || empire.has(Empire.BIDDER, who)
                    || who >= State.FIRST_GENERAL && empire.has(Empire.GENERAL, who - State.FIRST_GENERAL);
            if (!empire.isTold() || !isSomebody || day < 0 || day > LAST_LOG_DAY || logCount >= MOST_LOGS) {
                return false;
            }
            logDay[logCount] = day;
            logRuler[logCount] = who;
            logCount++;
            return true;
        }
    }

    /** What would come of it: DAYS and SALES tried out on a state of its own. */
    private static final class Forecast {
        private static final int FAR = 200;
        private static final int DARES = 100;
        private static final int TREASURY_STEP = 100;
        private static final int TREASURIES = 100;
        private static final int MOST_THINNINGS = 9;

        private final State trial = new State();
        private final State bought = new State();
        private final Auction auction = new Auction();
        /** The last answers: what to choose, and what comes of it. */
        int choice;
        int days;
        int wins;
        int difference;

        State after(Empire empire, State now, int n) {
            trial.copyFrom(now);
            for (int i = 0; i < n; i++) {
                trial.passDay(empire);
            }
            return trial;
        }

        /** Of so many DAYS from now on those at whose end who reigns now still does: nobody comes again. */
        int daysHeld(Empire empire, State now, int most) {
            int who = now.ruler;
            trial.copyFrom(now);
            for (int i = 0; i < most; i++) {
                trial.passDay(empire);
                if (trial.ruler != who) {
                    return i;
                }
            }
            return most;
        }

        int lastRuler() {
            return trial.ruler;
        }

        void chooseDare(Empire empire, State now, int bidder) {
            choice = 0;
            days = 0;
            auction.takeDares(empire);
            int lastPrice = 0;
            int held = 0;
            for (int dare = 0; dare < DARES; dare++) {
                auction.dare[bidder] = dare;
                auction.hold(empire, now, null);
                // Of the dares by which they win many come to the same price, and the days hang on that alone.
                if (auction.winner == bidder && auction.price != lastPrice) {
                    lastPrice = auction.price;
                    held = daysBought(empire, now);
                    if (held > days) {
                        days = held;
                        choice = dare;
                    }
                }
            }
        }

        /** How long who has won the auction would reign, if it was a SALE now. */
        private int daysBought(Empire empire, State now) {
            bought.copyFrom(now);
            bought.crown(auction.winner, auction.price);
            return daysHeld(empire, bought, FAR);
        }

        void chooseBribes(Empire empire, State now) {
            choice = 0;
            days = NONE;
            int leastPrice = 0;
            for (int set = 0; set < 1 << empire.count[Empire.GENERAL]; set++) {
                int price = priceOf(empire, now, set);
                if (price != NONE && price <= now.treasury) {
                    bought.copyFrom(now);
                    bought.treasury -= price;
                    bought.bribed |= set;
                    int held = daysHeld(empire, bought, FAR);
                    if (held > days || held == days && price < leastPrice) {
                        choice = set;
                        days = held;
                        leastPrice = price;
                    }
                }
            }
        }

        /** NONE: one of them can't be BRIBED. */
        private static int priceOf(Empire empire, State now, int set) {
            int price = 0;
            for (int general = 0; general < empire.count[Empire.GENERAL]; general++) {
                if ((set >> general & 1) != 0) {
                    if (!now.isFree(general)) {
                        return NONE;
                    }
                    price += empire.told[Empire.PRICE][general];
                }
            }
            return price;
        }

        /** -2: by none of these. More is not always better, as those who leave cost nothing any more. */
        int leastTreasury(Empire empire, State now, int n) {
            bought.copyFrom(now);
            for (int i = 0; i < TREASURIES; i++) {
                bought.treasury = i * TREASURY_STEP;
                if (daysHeld(empire, bought, n) == n) {
                    return bought.treasury;
                }
            }
            return -2;
        }

        /** -2: not even by none. */
        int mostThinnings(Empire empire, State now, int n) {
            int most = -2;
            bought.copyFrom(now);
            for (int times = 0; times <= MOST_THINNINGS; times++) {
                if (daysHeld(empire, bought, n) == n) {
                    most = times;
                }
                if (!bought.canThin()) {
                    return most;
                }
                bought.thinCoin();
            }
            return most;
        }

        void drawReigns(Realm realm, int m, int bidder) {
            wins = 0;
            days = 0;
            long x = realm.x;
            for (int i = 0; i < m; i++) {
                for (int each = 0; each < realm.empire.count[Empire.BIDDER]; each++) {
                    x = x * 1103515245L + 12345L & 2147483647L;
                    auction.dare[each] = (int) (x / 65536 % DARES);
                }
                auction.hold(realm.empire, realm.state, null);
                if (auction.winner == bidder) {
                    wins++;
                    days += daysBought(realm.empire, realm.state);
                }
            }
        }

        void halveGuards(Empire empire, State now) {
            int bands = empire.count[Empire.GUARD];
            int all = menOfSet(empire, ~now.left);
            int there = ~now.left & (1 << bands) - 1;
            int lowest = there & -there;
            choice = 0;
            difference = 0;
            for (int set = 1; set < 1 << bands; set++) {
                if ((set & ~there) == 0 && (set & lowest) != 0) {
                    int apart = Math.abs(all - 2 * menOfSet(empire, set));
                    if (choice == 0 || apart < difference) {
                        choice = set;
                        difference = apart;
                    }
                }
            }
        }

        private static int menOfSet(Empire empire, int set) {
            int sum = 0;
            for (int band = 0; band < empire.count[Empire.GUARD]; band++) {
                if ((set >> band & 1) != 0) {
                    sum += empire.told[Empire.MEN][band];
                }
            }
            return sum;
        }
    }

    /** GENERALS who march or wait. */
    private static final class March {
        /** Those who could come, by their DAYS, then by numbers. */
        final int[] order = new int[Empire.MOST_GENERALS];
        int size;
        int sets;
        int leastSet;
        private final int[] army = new int[Empire.MOST_GENERALS];
        private final int[] days = new int[Empire.MOST_GENERALS];
        private int guards;

        void gather(Empire empire, State state) {
            size = 0;
            guards = state.menOf(empire);
            for (int general = 0; general < empire.count[Empire.GENERAL]; general++) {
                army[general] = empire.told[Empire.ARMY][general];
                days[general] = empire.marchDays(general);
                if (state.isFree(general) && days[general] != NONE) {
                    insert(general);
                }
            }
        }

        private void insert(int general) {
            int at = Math.min(size, order.length - 1);
            while (at > 0 && days[order[at - 1]] > days[general]) {
                order[at] = order[at - 1];
                at--;
            }
            order[at] = general;
            size = Math.min(size + 1, order.length);
        }

        void countRests() {
            int able = 0;
            for (int i = 0; i < size; i++) {
                able |= 1 << order[i];
            }
            sets = 0;
            leastSet = -2;
            for (int set = 0; set <= able; set++) {
                if ((set & ~able) == 0 && isAtRest(set)) {
                    leastSet = sets == 0 ? set : leastSet;
                    sets++;
                }
            }
        }

        private boolean isAtRest(int set) {
            for (int i = 0; i < size; i++) {
                int general = order[i];
                if (gainOf(set ^ 1 << general, general) > gainOf(set, general)) {
                    return false;
                }
            }
            return true;
        }

        private int gainOf(int set, int general) {
            if ((set >> general & 1) == 0) {
                return 1;
            }
            return lastHolder(set) == general ? 2 : 0;
        }

        private int lastHolder(int set) {
            int there = guards;
            int holder = NONE;
            for (int i = 0; i < size; i++) {
                int general = order[i];
                if ((set >> general & 1) != 0) {
                    if (army[general] > there) {
                        holder = general;
                        there = army[general] - there;
                    } else {
                        there -= army[general];
                    }
                }
            }
            return holder;
        }
    }

    /** By which RULES it was SOLD, if the LOGS are so: number 0 stands for none, each other one for the RULE before. */
    private static final class Inquiry {
        private static final int DAYS = 61;

        private final int[][] rulers = new int[MOST_RULES + 1][DAYS];
        private final boolean[] agrees = new boolean[MOST_RULES + 1];
        private int tried;
        private final State trial = new State();
        private final Auction auction = new Auction();
        int agreeing;
        int first;
        int day;
        int alike;

        void followAll(Realm realm, Rule[] rules, int ruleCount) {
            tried = Math.min(ruleCount, MOST_RULES) + 1;
            agreeing = 0;
            first = -2;
            for (int i = 0; i < tried; i++) {
                follow(realm.empire, i > 0 && i <= rules.length ? rules[i - 1] : null, rulers[i]);
                agrees[i] = fits(realm, rulers[i]);
                if (agrees[i]) {
                    first = agreeing == 0 ? i - 1 : first;
                    agreeing++;
                }
            }
        }

        private void follow(Empire empire, Rule rule, int[] row) {
            trial.begin(empire);
            auction.takeDares(empire);
            auction.hold(empire, trial, rule);
            if (auction.winner != NONE) {
                trial.crown(auction.winner, auction.price);
            }
            for (int i = 0; i < DAYS; i++) {
                trial.passDay(empire);
                row[i] = trial.ruler;
            }
        }

        private static boolean fits(Realm realm, int[] row) {
            for (int i = 0; i < realm.logCount; i++) {
                int day = realm.logDay[i];
                if (day < 0 || day >= row.length || row[day] != realm.logRuler[i]) {
                    return false;
                }
            }
            return true;
        }

        void chooseDay() {
            day = 0;
            alike = MOST_RULES + 2;
            for (int i = 0; i < DAYS; i++) {
                int most = mostAlike(i);
                if (most < alike) {
                    alike = most;
                    day = i;
                }
            }
        }

        private int mostAlike(int onDay) {
            int most = 0;
            for (int i = 0; i < tried; i++) {
                int same = 0;
                for (int j = 0; agrees[i] && j < tried; j++) {
                    if (agrees[j] && rulers[j][onDay] == rulers[i][onDay]) {
                        same++;
                    }
                }
                most = Math.max(most, same);
            }
            return most;
        }
    }
}
