import java.util.Arrays;

/** A ship that can't stop: it goes round its island for ever. The document's promises, one method each. */
public final class ShipUnstopped {
    public static final int NONE = -1;

    private static final int LANES = 3;
    private static final int MOST_PLACES = 12;
    private static final int LEAST_PLACES = 4;
    private static final int HOURS = 8;
    private static final int WINDS = 4;
    private static final int SAILS = 4;
    private static final int CHOICES = 3 * SAILS;
    private static final int SPEEDS = 4;
    private static final int MOST_DEPTH = 9;
    private static final int MOST_WEIGHT = 99;
    private static final int CELLS = LANES * MOST_PLACES;
    private static final int SPOTS = CELLS * HOURS;
    private static final int ROWS = SPOTS * SPEEDS;
    private static final int STATES = SPOTS * 5;
    private static final int AGROUND = 2000;

    private static final int TAPE_BYTES = 300;
    private static final int FEED_BYTES = 20;
    private static final int TEXTS = 4;
    private static final int MOST_COURSE = 24;
    private static final int MOST_SEED = 9999;
    private static final int MOST_WAKE = 30;
    private static final int MOST_GOODS = 12;
    private static final int PEOPLE = 10;
    private static final int MOST_LEAPS = 60;
    private static final int MOST_REACH = 24;
    private static final int MOST_HOURS = 99;
    private static final int MOST_TIMES = 5;
    private static final int MOST_MEET = 48;
    private static final int BOAT_WAITS = 8;
    private static final int FOR_EVER = 1000000;

    // What a token is. The names come first, so that a name's kind is its place in Laws.names as well.
    private static final int HOUR = 0;
    private static final int WEIGHT = 1;
    private static final int SAIL = 2;
    private static final int WIND = 3;
    private static final int LAST = 4;
    private static final int PLACE = 5;
    private static final int LANE = 6;
    private static final int FAST = 7;
    private static final int NAMES = 8;
    private static final int AND = 8;
    private static final int OR = 9;
    private static final int NOT = 10;
    private static final int SPEED = 11;
    private static final int DRAUGHT = 12;
    private static final int TIDE = 13;
    private static final int WORDS = 14;
    private static final int PLUS = 14;
    private static final int MINUS = 15;
    private static final int TIMES = 16;
    private static final int OVER = 17;
    private static final int LESS = 18;
    private static final int AT_MOST = 19;
    private static final int MORE = 20;
    private static final int AT_LEAST = 21;
    private static final int LIKE = 22;
    private static final int UNLIKE = 23;
    private static final int OPEN = 24;
    private static final int SHUT = 25;
    private static final int SEMICOLON = 26;
    private static final int END = 27;
    private static final int WRONG = 28;
    private static final int NEGATE = 29;
    // A number's kind is this and the number, so that code and tokens need one int each.
    private static final int NUMBERS = 100;
    private static final int MOST_NUMBER = 9999;

    private static final int CLAUSES = 3;
    private static final int MOST_OPEN = 8;
    private static final int MOST_VALUE = 1000000;
    // Eight brackets leave two operands each open, and or, and, < one each: 22 at most.
    private static final int STACK = 32;
    private static final int SPEED_NAMES = 0x7F;
    private static final int DRAUGHT_NAMES = 1 << HOUR | 1 << WEIGHT | 1 << FAST;
    private static final int TIDE_NAMES = 1 << HOUR | 1 << WEIGHT | 1 << PLACE;

    private static final int FAULT_STANDS = 1;
    private static final int FAULT_NUMBER = 2;
    private static final int FAULT_OPEN = 3;
    private static final int FAULT_TWICE = 4;
    private static final int FAULT_NAME = 5;

    // Of a set of speeds (4 bits): bit g is there for each set g that holds all of it.
    private static final int[] WITHIN = {
        0xFFFF, 0xAAAA, 0xCCCC, 0x8888, 0xF0F0, 0xA0A0, 0xC0C0, 0x8080,
        0xFF00, 0xAA00, 0xCC00, 0x8800, 0xF000, 0xA000, 0xC000, 0x8000
    };

    private final Tape tape;
    private final Reader reader;
    private final Text[] texts;
    private final Text noText;
    private final Scene now;
    private final Scene image;
    private final Laws laws;
    private final Chart chart;

    public ShipUnstopped(int places) {
        int n = Math.min(Math.max(places, LEAST_PLACES), MOST_PLACES);
        texts = new Text[TEXTS];
        for (int i = 0; i < TEXTS; i++) {
            texts[i] = new Text();
        }
        noText = new Text();
        tape = new Tape();
        reader = new Reader(tape, texts[0]);
        now = new Scene(n);
        image = new Scene(n);
        laws = new Laws(now.sea, noText);
        chart = new Chart(now.sea, laws);
    }

    public boolean depth(int lane, int place, int d) {
        if (!isLane(lane) || !now.sea.hasPlace(place) || d < 0 || d > MOST_DEPTH) {
            return false;
        }
        now.sea.depths[cellOf(lane, place)] = d;
        chart.forgetGround();
        return true;
    }

    public boolean rocks(int set) {
        if (set < 0 || set >= 1 << now.sea.places) {
            return false;
        }
        now.sea.rocks = set;
        chart.forgetGround();
        return true;
    }

    public boolean winds(int hour, int set) {
        if (hour < 0 || hour >= HOURS || set < 1 || set >= 1 << WINDS) {
            return false;
        }
        now.sea.winds[hour] = set;
        chart.forgetWinds(hour);
        return true;
    }

    public boolean weigh(int w) {
        if (w < 0 || w > MOST_WEIGHT) {
            return false;
        }
        now.sea.weight = w;
        chart.forgetAll();
        return true;
    }

    public int feed(int a, int b, int c, int d, int e) {
        if (tape.length + FEED_BYTES > TAPE_BYTES) {
            return NONE;
        }
        tape.put(a);
        tape.put(b);
        tape.put(c);
        tape.put(d);
        tape.put(e);
        return tape.length;
    }

    public int end(int n) {
        if (n < 0 || n > tape.length) {
            return NONE;
        }
        tape.length = n;
        return n;
    }

    public int text() {
        if (now.texts < 0 || now.texts >= TEXTS) {
            return NONE;
        }
        boolean sound = reader.read(texts[now.texts]);
        tape.length = 0;
        if (!sound) {
            return NONE;
        }
        now.texts++;
        return now.texts - 1;
    }

    public int fault(int what) {
        if (!reader.hasRead) {
            return NONE;
        }
        if (what == 0) {
            return reader.fault;
        }
        return what == 1 ? reader.faultAt : NONE;
    }

    public boolean by(int text) {
        if (text < NONE || text >= now.texts) {
            return false;
        }
        now.ruling = text;
        followRuling();
        return true;
    }

    public int becomes(int state, int choice, int wind) {
        if (!isState(state) || !isChoice(choice) || !isWind(wind)) {
            return NONE;
        }
        return laws.outcome(state, choice, wind);
    }

    public int go(int choice, int wind) {
        if (!now.vessel.afloat || !isChoice(choice) || !isWind(wind)) {
            return NONE;
        }
        boolean blows = hasBit(now.sea.winds[now.vessel.hour], wind);
        return blows ? sailAnHour(choice, wind) : NONE;
    }

    public int course(int choice) {
        if (choice == NONE) {
            now.course.count = 0;
            return 0;
        }
        return isChoice(choice) ? now.course.add(choice) : NONE;
    }

    public int sail(int seed) {
        if (seed < 0 || seed > MOST_SEED) {
            return NONE;
        }
        int x = seed * 5 + 3;
        int hours = 0;
        for (int i = 0; i < now.course.count && now.vessel.afloat; i++) {
            int set = now.sea.winds[now.vessel.hour];
            int wind = bitFromLowest(set, x % Math.max(1, Integer.bitCount(set)));
            x = (x * 151 + 29) % 30097;
            if (sailAnHour(now.course.items[i], wind) == NONE) {
                return hours;
            }
            hours++;
        }
        return hours;
    }

    public int undo() {
        return now.wake.takeBack(now.vessel);
    }

    public int ship(int what) {
        switch (what) {
            case 0:
                return now.vessel.state();
            case 1:
                return now.vessel.afloat ? 1 : 0;
            case 2:
                return now.vessel.days;
            case 3:
                return now.vessel.laps;
            default:
                return NONE;
        }
    }

    public int reach(int state, int n, int lane) {
        if (!isState(state) || n < 0 || n > MOST_REACH || !isLane(lane)) {
            return NONE;
        }
        chart.prepare(hourOf(state), n);
        return chart.placesAfter(state, n, lane);
    }

    public boolean kept(int state, int n) {
        if (!isState(state) || n < NONE || n > MOST_HOURS) {
            return false;
        }
        chart.settle();
        return chart.hoursKept(state) >= (n == NONE ? FOR_EVER : n);
    }

    public int think() {
        chart.settle();
        return chart.ahead;
    }

    public int best(int state) {
        if (!isState(state)) {
            return NONE;
        }
        chart.settle();
        return chart.bestChoice(state);
    }

    public int between(int state, int place, int times, boolean sure) {
        if (!isState(state) || !now.sea.hasPlace(place) || times < 1 || times > MOST_TIMES) {
            return NONE;
        }
        chart.prepare(0, HOURS);
        return sure ? chart.surelyBetween(state, place, times) : chart.luckilyBetween(state, place, times);
    }

    public int meet(int state, int place, int hour, int speed) {
        if (!isState(state) || !now.sea.hasPlace(place) || hour < 0 || hour > MOST_MEET) {
            return NONE;
        }
        if (speed < 1 || speed > SPEEDS) {
            return NONE;
        }
        chart.prepare(0, HOURS);
        return chart.firstMeeting(state, place, hour, speed);
    }

    public int goods(int weight) {
        if (weight == NONE) {
            now.goods.count = 0;
            return 0;
        }
        return weight >= 1 && weight <= MOST_WEIGHT ? now.goods.add(weight) : NONE;
    }

    public int level(int what) {
        if (what != 0 && what != 1) {
            return NONE;
        }
        int set = levelSet();
        return what == 0 ? set : parting(set);
    }

    public int leap(int who, boolean on) {
        if (!now.vessel.afloat || who < 0 || who >= PEOPLE) {
            return NONE;
        }
        int count = now.crew.add(who, on, now.vessel.laps);
        if (count != NONE) {
            now.wake.count = 0;
        }
        return count;
    }

    public int aboard(int lap, boolean all) {
        if (lap == NONE) {
            return now.crew.present;
        }
        if (lap < 0 || lap > now.vessel.laps) {
            return NONE;
        }
        return now.crew.ofLap(lap, all);
    }

    public int image() {
        image.copyFrom(now);
        return now.vessel.laps;
    }

    public int back() {
        now.copyFrom(image);
        followRuling();
        return now.vessel.laps;
    }

    public int about(int what) {
        if (what >= 10 && what < 10 + HOURS) {
            return now.sea.winds[what - 10];
        }
        if (what >= 20 && what < 20 + CELLS) {
            return now.sea.hasPlace((what - 20) % MOST_PLACES) ? now.sea.depths[what - 20] : -2;
        }
        switch (what) {
            case 0:
                return now.sea.places;
            case 1:
                return now.sea.rocks;
            case 2:
                return now.sea.weight;
            case 3:
                return now.texts;
            case 4:
                return now.ruling;
            case 5:
                return now.course.count;
            case 6:
                return now.wake.count;
            case 7:
                return now.goods.count;
            case 8:
                return now.crew.count;
            case 9:
                return tape.length;
            default:
                return -2;
        }
    }

    /** Behind each change of THE TEXT, or of all: what the chart knows holds no more. */
    private void followRuling() {
        boolean rules = now.ruling >= 0 && now.ruling < TEXTS;
        laws.text = rules ? texts[now.ruling] : noText;
        chart.forgetAll();
    }

    private int sailAnHour(int choice, int wind) {
        int outcome = laws.outcome(now.vessel.state(), choice, wind);
        if (outcome != NONE) {
            now.wake.remember(now.vessel);
            now.vessel.comeTo(outcome, now.sea.places);
        }
        return outcome;
    }

    /** The first set that parts least, from the lowest on. */
    private int levelSet() {
        int best = 0;
        int least = parting(0);
        // A set and what it leaves out part alike: the lower one lacks the last of the goods.
        for (int set = 1; set < 1 << Math.max(0, now.goods.count - 1); set++) {
            int parts = parting(set);
            if (parts < least) {
                least = parts;
                best = set;
            }
        }
        return best;
    }

    private int parting(int set) {
        int difference = 0;
        for (int i = 0; i < now.goods.count; i++) {
            difference += hasBit(set, i) ? now.goods.items[i] : -now.goods.items[i];
        }
        return Math.abs(difference);
    }

    private static boolean hasBit(int set, int bit) {
        return (set >> bit & 1) != 0;
    }

    /** That bit of a set which has so many of its bits below it. */
    private static int bitFromLowest(int set, int below) {
        int rest = set;
        for (int i = 0; i < below && i < WINDS; i++) {
            rest &= rest - 1;
        }
        return Integer.numberOfTrailingZeros(rest);
    }

    private static boolean isLane(int lane) {
        return lane >= 0 && lane < LANES;
    }

    private static boolean isChoice(int choice) {
        return choice >= 0 && choice < CHOICES;
    }

    private static boolean isWind(int wind) {
        return wind >= 0 && wind < WINDS;
    }

    private boolean isState(int state) {
        return state >= 0 && state < STATES && lastOf(state) > 0 && placeOf(state) < now.sea.places;
    }

    private static int laneOf(int state) {
        return state / (5 * HOURS * MOST_PLACES);
    }

    private static int placeOf(int state) {
        return state / (5 * HOURS) % MOST_PLACES;
    }

    private static int hourOf(int state) {
        return state / 5 % HOURS;
    }

    private static int lastOf(int state) {
        return state % 5;
    }

    private static int cellOf(int lane, int place) {
        return lane * MOST_PLACES + place;
    }

    private static int spotOf(int lane, int place, int hour) {
        return (lane * MOST_PLACES + place) * HOURS + hour;
    }

    private static int stateOf(int lane, int place, int hour, int last) {
        return ((lane * MOST_PLACES + place) * HOURS + hour) * 5 + last;
    }

    /** Where a STATE stands in a table without gaps. */
    private static int rowOf(int lane, int place, int hour, int last) {
        return ((lane * MOST_PLACES + place) * HOURS + hour) * SPEEDS + last - 1;
    }

    /** The bytes that were fed, and the tokens that they make. */
    private static final class Tape {
        final byte[] bytes = new byte[TAPE_BYTES];
        final int[] kinds = new int[TAPE_BYTES + 1];
        final int[] starts = new int[TAPE_BYTES + 1];
        int length;
        private int at;

        void put(int four) {
            for (int shift = 24; shift >= 0 && length < TAPE_BYTES; shift -= 8) {
                bytes[length] = (byte) (four >>> shift);
                length++;
            }
        }

        /** The row of tokens; its last one is the end, or the first that is none. */
        void cutIntoTokens() {
            at = 0;
            for (int i = 0; i <= TAPE_BYTES; i++) {
                skipBlanks();
                starts[i] = at;
                kinds[i] = nextKind();
                if (kinds[i] == END || kinds[i] == WRONG) {
                    return;
                }
            }
        }

        private void skipBlanks() {
            while (at < length && (bytes[at] == ' ' || bytes[at] == '\n')) {
                at++;
            }
        }

        private int nextKind() {
            if (at >= length) {
                return END;
            }
            if (isLetter(bytes[at])) {
                return nextWord();
            }
            if (isDigit(bytes[at])) {
                return nextNumber();
            }
            int sign = bytes[at];
            at++;
            return signKind(sign);
        }

        private int nextWord() {
            int from = at;
            while (at < length && isLetter(bytes[at])) {
                at++;
            }
            for (int kind = 0; kind < WORDS; kind++) {
                if (spells(from, at, wordOf(kind))) {
                    return kind;
                }
            }
            return WRONG;
        }

        private int nextNumber() {
            int number = 0;
            while (at < length && isDigit(bytes[at])) {
                number = Math.min(number * 10 + bytes[at] - '0', MOST_NUMBER + 1);
                at++;
            }
            return NUMBERS + number;
        }

        private int signKind(int sign) {
            switch (sign) {
                case '+':
                    return PLUS;
                case '-':
                    return MINUS;
                case '*':
                    return TIMES;
                case '/':
                    return OVER;
                case '<':
                    return equalsFollows() ? AT_MOST : LESS;
                case '>':
                    return equalsFollows() ? AT_LEAST : MORE;
                case '=':
                    return LIKE;
                case '#':
                    return UNLIKE;
                case '(':
                    return OPEN;
                case ')':
                    return SHUT;
                case ';':
                    return SEMICOLON;
                default:
                    return WRONG;
            }
        }

        private boolean equalsFollows() {
            if (at < length && bytes[at] == '=') {
                at++;
                return true;
            }
            return false;
        }

        private boolean spells(int from, int to, String word) {
            if (to - from != word.length()) {
                return false;
            }
            for (int i = 0; i < word.length(); i++) {
                if (bytes[from + i] != word.charAt(i)) {
                    return false;
                }
            }
            return true;
        }

        private static String wordOf(int kind) {
            switch (kind) {
                case HOUR:
                    return "hour";
                case WEIGHT:
                    return "weight";
                case SAIL:
                    return "sail";
                case WIND:
                    return "wind";
                case LAST:
                    return "last";
                case PLACE:
                    return "place";
                case LANE:
                    return "lane";
                case FAST:
                    return "fast";
                case AND:
                    return "and";
                case OR:
                    return "or";
                case NOT:
                    return "not";
                case SPEED:
                    return "speed";
                case DRAUGHT:
                    return "draught";
                default:
                    return "tide";
            }
        }

        private static boolean isLetter(int b) {
            return b >= 'a' && b <= 'z' || b >= 'A' && b <= 'Z';
        }

        private static boolean isDigit(int b) {
            return b >= '0' && b <= '9';
        }
    }

    /** A TEXT that was read: its clauses, operands ahead of what joins them. */
    private static final class Text {
        final int[] code = new int[TAPE_BYTES];
        final int[] from = new int[CLAUSES];
        final int[] to = new int[CLAUSES];
        int size;
        int clauses;
        int speedNames;

        void clear() {
            size = 0;
            clauses = 0;
            speedNames = 0;
        }

        boolean has(int clause) {
            return hasBit(clauses, clause);
        }

        void begin(int clause) {
            from[clause] = size;
            to[clause] = size;
            clauses |= 1 << clause;
        }

        void add(int clause, int op) {
            if (size < code.length) {
                code[size] = op;
                size++;
                to[clause] = size;
            }
            if (clause == 0 && op < NAMES) {
                speedNames |= 1 << op;
            }
        }
    }

    /**
     * Reads the tape by the grammar. Each token is looked at ahead of the next one, so the first FAULT
     * found is the first there is; behind it the kind is WRONG, at which every rule ends.
     */
    private static final class Reader {
        final Tape tape;
        boolean hasRead;
        int fault;
        int faultAt;
        private Text text;
        private int token;
        private int kind;
        private int clause;
        private int names;
        private int open;

        Reader(Tape tape, Text text) {
            this.tape = tape;
            this.text = text;
        }

        boolean read(Text into) {
            hasRead = true;
            fault = 0;
            faultAt = NONE;
            text = into;
            text.clear();
            open = 0;
            tape.cutIntoTokens();
            token = 0;
            kind = tape.kinds[0];
            for (int i = 0; i <= CLAUSES && kind != END && fault == 0; i++) {
                readClause();
            }
            return fault == 0;
        }

        private void step() {
            if (token + 1 < tape.kinds.length) {
                token++;
                kind = tape.kinds[token];
            }
        }

        private void fail(int what) {
            if (fault == 0) {
                fault = what;
                faultAt = tape.starts[token];
            }
            kind = WRONG;
        }

        private void take(int wanted) {
            if (kind == wanted) {
                step();
            } else {
                fail(FAULT_STANDS);
            }
        }

        private void readClause() {
            if (kind < SPEED || kind > TIDE) {
                fail(FAULT_STANDS);
                return;
            }
            clause = kind - SPEED;
            if (text.has(clause)) {
                fail(FAULT_TWICE);
                return;
            }
            text.begin(clause);
            names = kind == SPEED ? SPEED_NAMES : kind == DRAUGHT ? DRAUGHT_NAMES : TIDE_NAMES;
            boolean asks = kind == TIDE;
            step();
            if (asks) {
                readEither();
            } else {
                readSum();
            }
            take(SEMICOLON);
        }

        private void readEither() {
            readBoth();
            for (int i = 0; i < TAPE_BYTES && kind == OR; i++) {
                step();
                readBoth();
                text.add(clause, OR);
            }
        }

        private void readBoth() {
            readAsk();
            for (int i = 0; i < TAPE_BYTES && kind == AND; i++) {
                step();
                readAsk();
                text.add(clause, AND);
            }
        }

        private void readAsk() {
            if (kind == NOT) {
                if (enters()) {
                    readAsk();
                    open--;
                    text.add(clause, NOT);
                }
                return;
            }
            readSum();
            if (kind < LESS || kind > UNLIKE) {
                fail(FAULT_STANDS);
                return;
            }
            int asked = kind;
            step();
            readSum();
            text.add(clause, asked);
        }

        private void readSum() {
            readProduct();
            for (int i = 0; i < TAPE_BYTES && (kind == PLUS || kind == MINUS); i++) {
                int joins = kind;
                step();
                readProduct();
                text.add(clause, joins);
            }
        }

        private void readProduct() {
            readOne();
            for (int i = 0; i < TAPE_BYTES && (kind == TIMES || kind == OVER); i++) {
                int joins = kind;
                step();
                readOne();
                text.add(clause, joins);
            }
        }

        private void readOne() {
            if (kind > NUMBERS + MOST_NUMBER) {
                fail(FAULT_NUMBER);
            } else if (kind < NAMES && !hasBit(names, kind)) {
                fail(FAULT_NAME);
            } else if (kind >= NUMBERS || kind < NAMES) {
                text.add(clause, kind);
                step();
            } else if (kind == OPEN) {
                if (enters()) {
                    readSum();
                    open--;
                    take(SHUT);
                }
            } else if (kind == MINUS) {
                if (enters()) {
                    readOne();
                    open--;
                    text.add(clause, NEGATE);
                }
            } else {
                fail(FAULT_STANDS);
            }
        }

        /** Goes in behind a bracket, a not or a minus; this is what keeps the recursion low. */
        private boolean enters() {
            if (open >= MOST_OPEN) {
                fail(FAULT_OPEN);
                return false;
            }
            open++;
            step();
            return true;
        }
    }

    /** The ring as it was told: depths, rocks, winds; and the weight. */
    private static final class Sea {
        final int places;
        final int[] depths = new int[CELLS];
        final int[] winds = new int[HOURS];
        int rocks;
        int weight;

        Sea(int places) {
            this.places = places;
            Arrays.fill(depths, MOST_DEPTH);
            Arrays.fill(winds, 1 << 1);
        }

        void copyFrom(Sea other) {
            System.arraycopy(other.depths, 0, depths, 0, CELLS);
            System.arraycopy(other.winds, 0, winds, 0, HOURS);
            rocks = other.rocks;
            weight = other.weight;
        }

        boolean hasPlace(int place) {
            return place >= 0 && place < places;
        }

        /** The PLACE so many (4 at most) on; the ring is never shorter than that. */
        int placeOn(int place, int steps) {
            int to = place + steps;
            return to >= places ? to - places : to;
        }

        /** How many PLACES it must go on, 1 at least, until it comes to that one; never to NONE. */
        int stepsTo(int from, int to) {
            if (to == NONE) {
                return MOST_PLACES + 1;
            }
            return to > from ? to - from : to - from + places;
        }

        /** The step at which it is AGROUND, 0: none is; bare: those PLACES whose rocks no tide covers. */
        int groundStep(int lane, int place, int speed, int draught, int bare) {
            for (int step = 1; step <= speed && step <= SPEEDS; step++) {
                int to = placeOn(place, step);
                if (depths[cellOf(lane, to)] < draught || hasBit(bare, to)) {
                    return step;
                }
            }
            return 0;
        }
    }

    /** What THE TEXT says of speed, draught and tide, and so what becomes of a STATE. */
    private static final class Laws {
        final Sea sea;
        Text text;
        private final int[] names = new int[NAMES];
        private final int[] stack = new int[STACK];

        Laws(Sea sea, Text text) {
            this.sea = sea;
            this.text = text;
        }

        /** The STATE that comes of it, or where it is AGROUND, or NONE: the LANE isn't there. */
        int outcome(int state, int choice, int wind) {
            int lane = laneOf(state) + choice / SAILS - 1;
            if (!isLane(lane)) {
                return NONE;
            }
            int place = placeOf(state);
            int hour = hourOf(state);
            setOut(lane, place, hour, lastOf(state));
            int speed = speedBy(choice % SAILS, wind);
            int ground = sea.groundStep(lane, place, speed, draughtOf(hour, speed), bareRocks(hour));
            if (ground > 0) {
                return AGROUND + cellOf(lane, sea.placeOn(place, ground));
            }
            return stateOf(lane, sea.placeOn(place, speed), (hour + 1) % HOURS, speed);
        }

        /** By each SAIL (4 bits each) the speeds that the WINDS of the HOUR may give. */
        int speedsBySail(int lane, int place, int hour, int last) {
            setOut(lane, place, hour, last);
            int sets = 0;
            for (int sail = 0; sail < SAILS; sail++) {
                for (int wind = 0; wind < WINDS; wind++) {
                    if (hasBit(sea.winds[hour], wind)) {
                        sets |= 1 << (4 * sail + speedBy(sail, wind) - 1);
                    }
                }
            }
            return sets;
        }

        private void setOut(int lane, int place, int hour, int last) {
            names[LANE] = lane;
            names[PLACE] = place;
            names[HOUR] = hour;
            names[LAST] = last;
        }

        private int speedBy(int sail, int wind) {
            if (!text.has(0)) {
                return 1;
            }
            names[SAIL] = sail;
            names[WIND] = wind;
            return Math.min(Math.max(value(0), 1), SPEEDS);
        }

        int draughtOf(int hour, int speed) {
            if (!text.has(1)) {
                return 0;
            }
            names[HOUR] = hour;
            names[FAST] = speed;
            return Math.min(Math.max(value(1), 0), MOST_DEPTH);
        }

        /** The PLACES that have rocks while the tide isn't so. */
        int bareRocks(int hour) {
            if (!text.has(2)) {
                return 0;
            }
            int bare = 0;
            names[HOUR] = hour;
            for (int place = 0; place < sea.places; place++) {
                names[PLACE] = place;
                if (hasBit(sea.rocks, place) && value(2) == 0) {
                    bare |= 1 << place;
                }
            }
            return bare;
        }

        private int value(int clause) {
            names[WEIGHT] = sea.weight;
            int top = 0;
            for (int i = text.from[clause]; i < text.to[clause]; i++) {
                int op = text.code[i];
                if (op >= NUMBERS || op < NAMES) {
                    if (top < STACK) {
                        stack[top] = op >= NUMBERS ? op - NUMBERS : names[op];
                        top++;
                    }
                } else if (op == NEGATE && top >= 1) {
                    stack[top - 1] = -stack[top - 1];
                } else if (op == NOT && top >= 1) {
                    stack[top - 1] = 1 - stack[top - 1];
                } else if (top >= 2) {
                    top--;
                    long joined = join(op, stack[top - 1], stack[top]);
                    stack[top - 1] = (int) Math.min(Math.max(joined, -MOST_VALUE), MOST_VALUE);
                }
            }
            return stack[0];
        }

        private static long join(int op, long a, long b) {
            switch (op) {
                case PLUS:
                    return a + b;
                case MINUS:
                    return a - b;
                case TIMES:
                    return a * b;
                case OVER:
                    return b == 0 ? 0 : a / b;
                case AND:
                    return a & b;
                case OR:
                    return a | b;
                case LESS:
                    return a < b ? 1 : 0;
                case AT_MOST:
                    return a <= b ? 1 : 0;
                case MORE:
                    return a > b ? 1 : 0;
                case AT_LEAST:
                    return a >= b ? 1 : 0;
                case LIKE:
                    return a == b ? 1 : 0;
                default:
                    return a != b ? 1 : 0;
            }
        }
    }

    /** THE SHIP. */
    private static final class Vessel {
        int lane;
        int place;
        int hour;
        int last = 1;
        int days;
        int laps;
        boolean afloat = true;

        int state() {
            return stateOf(lane, place, hour, last);
        }

        void setState(int state) {
            lane = laneOf(state);
            place = placeOf(state);
            hour = hourOf(state);
            last = lastOf(state);
        }

        /** Goes to what Laws.outcome said of it; a ring of so many PLACES. */
        void comeTo(int outcome, int places) {
            int from = place;
            if (outcome >= AGROUND) {
                afloat = false;
                lane = (outcome - AGROUND) / MOST_PLACES;
                place = (outcome - AGROUND) % MOST_PLACES;
            } else {
                setState(outcome);
                days += hour == 0 ? 1 : 0;
            }
            // It never goes on by more than a whole ring, so to have come to 0 is to stand no further on.
            laps += place <= from ? 1 : 0;
        }

        void copyFrom(Vessel other) {
            lane = other.lane;
            place = other.place;
            hour = other.hour;
            last = other.last;
            days = other.days;
            laps = other.laps;
            afloat = other.afloat;
        }
    }

    /** The latest HOURS, each as THE SHIP was ahead of it; it was AFLOAT at all of them. */
    private static final class Wake {
        final int[] states = new int[MOST_WAKE];
        final int[] days = new int[MOST_WAKE];
        final int[] laps = new int[MOST_WAKE];
        int next;
        int count;

        void remember(Vessel vessel) {
            states[next] = vessel.state();
            days[next] = vessel.days;
            laps[next] = vessel.laps;
            next = (next + 1) % MOST_WAKE;
            count = Math.min(count + 1, MOST_WAKE);
        }

        int takeBack(Vessel vessel) {
            if (count <= 0) {
                return NONE;
            }
            next = (next + MOST_WAKE - 1) % MOST_WAKE;
            count--;
            vessel.setState(states[next]);
            vessel.days = days[next];
            vessel.laps = laps[next];
            vessel.afloat = true;
            return count;
        }

        void copyFrom(Wake other) {
            System.arraycopy(other.states, 0, states, 0, MOST_WAKE);
            System.arraycopy(other.days, 0, days, 0, MOST_WAKE);
            System.arraycopy(other.laps, 0, laps, 0, MOST_WAKE);
            next = other.next;
            count = other.count;
        }
    }

    /** A row that can grow to so many and no more. */
    private static final class Row {
        final int[] items;
        int count;

        Row(int most) {
            items = new int[Math.max(0, most)];
        }

        int add(int item) {
            if (count >= items.length) {
                return NONE;
            }
            items[count] = item;
            count++;
            return count;
        }

        void copyFrom(Row other) {
            System.arraycopy(other.items, 0, items, 0, Math.min(items.length, other.items.length));
            count = other.count;
        }
    }

    /** Who is aboard, and all LEAPS. */
    private static final class Crew {
        final int[] people = new int[MOST_LEAPS];
        final int[] laps = new int[MOST_LEAPS];
        final int[] comes = new int[MOST_LEAPS];
        int count;
        int present;

        int add(int who, boolean on, int lap) {
            if (count >= MOST_LEAPS || hasBit(present, who) == on) {
                return NONE;
            }
            people[count] = who;
            laps[count] = lap;
            comes[count] = on ? 1 : 0;
            count++;
            present ^= 1 << who;
            return count;
        }

        int ofLap(int lap, boolean all) {
            int ahead = 0;
            int comers = 0;
            int leavers = 0;
            for (int i = 0; i < count && laps[i] <= lap; i++) {
                int bit = 1 << people[i];
                if (laps[i] < lap) {
                    ahead ^= bit;
                } else if (comes[i] == 1) {
                    comers |= bit;
                } else {
                    leavers |= bit;
                }
            }
            return all ? ahead & ~leavers : ahead | comers;
        }

        void copyFrom(Crew other) {
            System.arraycopy(other.people, 0, people, 0, MOST_LEAPS);
            System.arraycopy(other.laps, 0, laps, 0, MOST_LEAPS);
            System.arraycopy(other.comes, 0, comes, 0, MOST_LEAPS);
            count = other.count;
            present = other.present;
        }
    }

    /**
     * All that an image holds. Of the texts their count is enough: one that an image counts is never
     * written over, since texts only come behind those that are counted.
     */
    private static final class Scene {
        final Sea sea;
        final Vessel vessel = new Vessel();
        final Wake wake = new Wake();
        final Row course = new Row(MOST_COURSE);
        final Row goods = new Row(MOST_GOODS);
        final Crew crew = new Crew();
        int texts;
        int ruling = NONE;

        Scene(int places) {
            sea = new Sea(places);
        }

        void copyFrom(Scene other) {
            sea.copyFrom(other.sea);
            vessel.copyFrom(other.vessel);
            wake.copyFrom(other.wake);
            course.copyFrom(other.course);
            goods.copyFrom(other.goods);
            crew.copyFrom(other.crew);
            texts = other.texts;
            ruling = other.ruling;
        }
    }

    /**
     * What can be reached and kept. What becomes of a STATE hangs on the new LANE, the PLACE, the HOUR and
     * the speed alone, so sets of speeds (bit 0: 1) stand for CHOICES and WINDS. The tables are filled an
     * HOUR at a time, when they are asked for, and hold until the sea or its laws change.
     */
    private static final class Chart {
        final Sea sea;
        final Laws laws;
        private final int[] speeds = new int[ROWS];
        private final int[] enough = new int[ROWS];
        private final int[] afloat = new int[SPOTS];
        private final int[] hours = new int[ROWS];
        private int[] here = new int[MOST_TIMES * CELLS];
        private int[] there = new int[MOST_TIMES * CELLS];
        private int[] can = new int[MOST_TIMES * SPOTS];
        private int[] could = new int[MOST_TIMES * SPOTS];
        private int pacedHours;
        private int soundedHours;
        private boolean settled;
        int ahead;

        Chart(Sea sea, Laws laws) {
            this.sea = sea;
            this.laws = laws;
        }

        void forgetGround() {
            soundedHours = 0;
            settled = false;
        }

        void forgetWinds(int hour) {
            pacedHours &= ~(1 << hour);
            settled = false;
        }

        void forgetAll() {
            pacedHours = 0;
            soundedHours = 0;
            settled = false;
        }

        /** Fills the tables of so many HOURS from that one on; what asks of them wants it done. */
        void prepare(int first, int count) {
            for (int i = 0; i < count && i < HOURS; i++) {
                int hour = (first + i) % HOURS;
                if (!hasBit(pacedHours, hour)) {
                    pace(hour);
                    pacedHours |= 1 << hour;
                }
                if (!hasBit(soundedHours, hour)) {
                    sound(hour);
                    soundedHours |= 1 << hour;
                }
            }
        }

        /** For how many HOURS each STATE is KEPT: those that are lost get fewer until none is lost. */
        void settle() {
            if (settled) {
                return;
            }
            prepare(0, HOURS);
            Arrays.fill(hours, FOR_EVER);
            Arrays.fill(can, (1 << SPEEDS) - 1);
            ahead = 0;
            for (int n = 0; n <= ROWS; n++) {
                if (lookAnHourAhead(1, NONE, 1) == 0) {
                    break;
                }
                noteLost(n);
                ahead = n + 1;
            }
            settled = true;
        }

        int placesAfter(int state, int n, int lane) {
            startFrom(state);
            for (int i = 0; i < n; i++) {
                goAnHour((hourOf(state) + i) % HOURS, 1, NONE);
            }
            int places = 0;
            for (int place = 0; place < sea.places; place++) {
                places |= here[cellOf(lane, place)] != 0 ? 1 << place : 0;
            }
            return places;
        }

        int firstMeeting(int state, int place, int hour, int speed) {
            startFrom(state);
            for (int i = 1; i <= hour + BOAT_WAITS; i++) {
                goAnHour((hourOf(state) + i - 1) % HOURS, 1, NONE);
                int lasts = here[cellOf(0, place)] | here[cellOf(1, place)] | here[cellOf(2, place)];
                if (i >= hour && hasBit(lasts, speed - 1)) {
                    return i;
                }
            }
            return NONE;
        }

        int luckilyBetween(int state, int goal, int times) {
            startFrom(state);
            for (int i = 1; i <= MOST_HOURS; i++) {
                if (goAnHour((hourOf(state) + i - 1) % HOURS, times, goal)) {
                    return i;
                }
            }
            return NONE;
        }

        /** From the end: layer j can, if it can surely come to the goal j + 1 times in so many HOURS. */
        int surelyBetween(int state, int goal, int times) {
            Arrays.fill(can, 0);
            int asked = (times - 1) * SPOTS + spotOf(laneOf(state), placeOf(state), hourOf(state));
            int moved = (1 << times) - 1;
            for (int i = 1; i <= MOST_HOURS && moved != 0; i++) {
                moved = lookAnHourAhead(times, goal, moved);
                if (hasBit(can[asked], lastOf(state) - 1)) {
                    return i;
                }
            }
            return NONE;
        }

        int hoursKept(int state) {
            return hours[rowOf(laneOf(state), placeOf(state), hourOf(state), lastOf(state))];
        }

        int bestChoice(int state) {
            for (int choice = 0; choice < CHOICES; choice++) {
                int lane = laneOf(state) + choice / SAILS - 1;
                if (isLane(lane) && keeps(lane, state, choice % SAILS)) {
                    return choice;
                }
            }
            return NONE;
        }

        private boolean keeps(int lane, int state, int sail) {
            int place = placeOf(state);
            int hour = hourOf(state);
            int set = speeds[rowOf(lane, place, hour, lastOf(state))] >> (4 * sail);
            for (int speed = 1; speed <= SPEEDS; speed++) {
                if (hasBit(set, speed - 1)) {
                    int to = rowOf(lane, sea.placeOn(place, speed), (hour + 1) % HOURS, speed);
                    if (!hasBit(afloat[spotOf(lane, place, hour)], speed - 1) || hours[to] != FOR_EVER) {
                        return false;
                    }
                }
            }
            return true;
        }

        private void noteLost(int n) {
            for (int spot = 0; spot < SPOTS; spot++) {
                int lost = could[spot] & ~can[spot];
                for (int last = 0; last < SPEEDS && lost != 0; last++) {
                    if (hasBit(lost, last)) {
                        hours[spot * SPEEDS + last] = n;
                    }
                }
            }
        }

        /**
         * can (for n HOURS) goes to could, and can is for n + 1. A layer is how often it must yet come, less
         * one; if it and the one below stood still the last time (moved, bits), it does so again, and both
         * rows hold it already. Answers what moved.
         */
        private int lookAnHourAhead(int layers, int goal, int moved) {
            int[] old = can;
            can = could;
            could = old;
            int moves = 0;
            for (int layer = 0; layer < layers && layer < MOST_TIMES; layer++) {
                if ((moved & 3 << layer >> 1) != 0 && layerMoves(layer, goal)) {
                    moves |= 1 << layer;
                }
            }
            return moves;
        }

        private boolean layerMoves(int layer, int goal) {
            boolean moves = false;
            for (int place = 0; place < sea.places; place++) {
                for (int hour = 0; hour < HOURS; hour++) {
                    int left = lastsThatCan(layer, 0, place, hour, goal);
                    int middle = lastsThatCan(layer, 1, place, hour, goal);
                    int right = lastsThatCan(layer, 2, place, hour, goal);
                    moves |= putLasts(layer, 0, place, hour, left | middle);
                    moves |= putLasts(layer, 1, place, hour, left | middle | right);
                    moves |= putLasts(layer, 2, place, hour, middle | right);
                }
            }
            return moves;
        }

        private boolean putLasts(int layer, int lane, int place, int hour, int lasts) {
            int at = layer * SPOTS + spotOf(lane, place, hour);
            can[at] = lasts;
            return could[at] != lasts;
        }

        /** With which LAST there is a SAIL so that it can, whatever the WIND, going on in that LANE. */
        private int lastsThatCan(int layer, int lane, int place, int hour, int goal) {
            int good = goodSpeeds(layer, lane, place, hour, goal);
            int row = rowOf(lane, place, hour, 1);
            int lasts = 0;
            for (int i = 0; i < SPEEDS && good != 0; i++) {
                lasts |= (enough[row + i] >> good & 1) << i;
            }
            return lasts;
        }

        private int goodSpeeds(int layer, int lane, int place, int hour, int goal) {
            int floats = afloat[spotOf(lane, place, hour)];
            int steps = sea.stepsTo(place, goal);
            int good = 0;
            for (int speed = 1; speed <= SPEEDS && floats != 0; speed++) {
                int rest = steps <= speed ? layer - 1 : layer;
                int to = spotOf(lane, sea.placeOn(place, speed), (hour + 1) % HOURS);
                if (rest < 0 || hasBit(could[rest * SPOTS + to], speed - 1)) {
                    good |= 1 << (speed - 1);
                }
            }
            return good & floats;
        }

        private void startFrom(int state) {
            Arrays.fill(here, 0);
            here[cellOf(laneOf(state), placeOf(state))] = 1 << (lastOf(state) - 1);
        }

        /**
         * here (LASTS, by how often it came to the goal, LANE and PLACE) goes on by an HOUR; whether it can
         * have come to it as many times as there are layers.
         */
        private boolean goAnHour(int hour, int layers, int goal) {
            Arrays.fill(there, 0);
            boolean come = false;
            for (int layer = 0; layer < layers && layer < MOST_TIMES; layer++) {
                for (int cell = 0; cell < CELLS; cell++) {
                    int lasts = here[layer * CELLS + cell];
                    if (lasts != 0 && spread(layer, cell, hour, lasts, goal, layers)) {
                        come = true;
                    }
                }
            }
            int[] old = here;
            here = there;
            there = old;
            return come;
        }

        private boolean spread(int layer, int cell, int hour, int lasts, int goal, int layers) {
            int place = cell % MOST_PLACES;
            int middle = cell / MOST_PLACES;
            int steps = sea.stepsTo(place, goal);
            boolean come = false;
            for (int lane = Math.max(0, middle - 1); lane <= Math.min(LANES - 1, middle + 1); lane++) {
                int set = speedsOfAny(lane, place, hour, lasts) & afloat[spotOf(lane, place, hour)];
                for (int speed = 1; speed <= SPEEDS && set != 0; speed++) {
                    if (hasBit(set, speed - 1)) {
                        int times = steps <= speed ? layer + 1 : layer;
                        if (times < layers) {
                            there[times * CELLS + cellOf(lane, sea.placeOn(place, speed))] |= 1 << (speed - 1);
                        } else {
                            come = true;
                        }
                    }
                }
            }
            return come;
        }

        private int speedsOfAny(int lane, int place, int hour, int lasts) {
            int row = rowOf(lane, place, hour, 1);
            int sets = 0;
            for (int i = 0; i < SPEEDS; i++) {
                sets |= hasBit(lasts, i) ? speeds[row + i] : 0;
            }
            return (sets | sets >> 4 | sets >> 8 | sets >> 12) & 15;
        }

        private void pace(int hour) {
            int names = laws.text.speedNames;
            for (int i = 0; i < CELLS * SPEEDS; i++) {
                int lane = i / (MOST_PLACES * SPEEDS);
                int place = i / SPEEDS % MOST_PLACES;
                int last = i % SPEEDS + 1;
                int row = rowOf(lane, place, hour, last);
                // Where the law names no lane, place or last, an earlier row has the same answer.
                int like = rowOf(hasBit(names, LANE) ? lane : 0, hasBit(names, PLACE) ? place : 0, hour,
                    hasBit(names, LAST) ? last : 1);
                if (place < sea.places) {
                    int sets = like < row ? speeds[like] : laws.speedsBySail(lane, place, hour, last);
                    speeds[row] = sets;
                    enough[row] = WITHIN[sets & 15] | WITHIN[sets >> 4 & 15]
                        | WITHIN[sets >> 8 & 15] | WITHIN[sets >> 12 & 15];
                }
            }
        }

        private void sound(int hour) {
            int bare = laws.bareRocks(hour);
            for (int speed = 1; speed <= SPEEDS; speed++) {
                int draught = laws.draughtOf(hour, speed);
                for (int cell = 0; cell < CELLS; cell++) {
                    int place = cell % MOST_PLACES;
                    if (place < sea.places) {
                        int lane = cell / MOST_PLACES;
                        boolean floats = sea.groundStep(lane, place, speed, draught, bare) == 0;
                        putAfloat(spotOf(lane, place, hour), speed, floats);
                    }
                }
            }
        }

        private void putAfloat(int spot, int speed, boolean floats) {
            int bit = 1 << (speed - 1);
            afloat[spot] = floats ? afloat[spot] | bit : afloat[spot] & ~bit;
        }
    }
}
