import java.util.Arrays;

/**
 * Volts and numbers: parts that are not quite alike, summed to steps, and the
 * ways to turn a volt into a number with them. The promises are those of
 * shared/DOC.md; the words in capitals there are the names in here.
 */
public final class VoltNumbers {
    public static final int BAD = -1, STATE = -2, FULL = -3, NONE = -4;

    // Answers of calls that can rightly answer -1 to -4.
    private static final int BAD_RULE = -1000;
    private static final int BAD_OUT = -100000;
    private static final int BAD_LSB = -1000000;
    private static final long BAD_FRACTION = -10000000000L;
    private static final long STATE_FRACTION = -10000000002L;
    private static final long NONE_FRACTION = -10000000004L;

    // What the machine would find, as answers.
    private static final int NULL_FAULT = -11;
    private static final int INDEX_FAULT = -12;
    private static final int CAST_FAULT = -13;
    private static final int SIZE_FAULT = -14;
    private static final int NO_VOLT_FAULT = -20;

    private static final int GREATEST_VOLT = 99999;
    private static final int MOST_RANGE_VOLTS = 20000;
    private static final int MOST_UP_TICKS = 400;
    private static final int MOST_DOWN_TICKS = 1000;
    private static final int MOST_KEPT_TICKS = 400;
    private static final int SHEETS = 4;
    private static final int LANES = 3;

    private final Rules rules;
    private final Rules draft;
    private final Tokens tape;
    private final Reader reader;
    private final Steps steps;
    private final Fraction fraction;
    private final Comparers comparers;
    private final Keeper keeper;
    private final Keeper otherKeeper;
    private final Measures measures;
    private final Sheet[] sheets;
    private final Wave waveSeen;

    public VoltNumbers() {
        rules = new Rules();
        draft = new Rules();
        tape = new Tokens();
        reader = new Reader(tape, draft);
        steps = new Steps(rules);
        fraction = new Fraction();
        comparers = new Comparers(rules);
        keeper = new Keeper();
        otherKeeper = new Keeper();
        measures = new Measures(rules);
        sheets = new Sheet[SHEETS];
        for (int k = 0; k < sheets.length; k++) {
            sheets[k] = new Sheet();
        }
        waveSeen = new Wave();
    }

    // ---- the text

    public int feed(long v) {
        return tape.append(v) ? tape.length : FULL;
    }

    public int end(int n) {
        if (n < 0 || n > tape.length) {
            return BAD;
        }
        int had = tape.length;
        tape.length = n;
        return had;
    }

    public int text() {
        int lines = reader.readTape();
        tape.length = 0;
        if (reader.faultFound != Reader.NO_FAULT) {
            return -10 - reader.faultPlace;
        }
        rules.copy(draft);
        steps.reckonOuts();
        measures.size = 0;
        return lines;
    }

    public int fault() {
        return reader.faultFound;
    }

    public int rule(int what) {
        switch (what) {
            case 0: return rules.bits;
            case 1: return rules.unit;
            case 2: return rules.offset;
            case 3: return rules.top ? 1 : 0;
            case 4: return rules.lean;
            case 5: return rules.ref;
            default: break;
        }
        if (what >= 10 && what < 10 + Rules.MISSES) {
            return rules.missOf(what - 10);
        }
        if (what >= 30 && what < 30 + Rules.RESISTORS) {
            return rules.resistorAt(what - 30);
        }
        return BAD_RULE;
    }

    // ---- steps

    public int out(int code) {
        return rules.isCode(code) ? steps.outOf(code) : BAD_OUT;
    }

    public int lsb(int what) {
        if (what < 0 || what > 1) {
            return BAD_LSB;
        }
        fraction.put(steps.fullScale(), steps.lastCode());
        return (int) fraction.side(what);
    }

    public long wide(int code, int what) {
        if (code < 0 || code >= steps.lastCode()) {
            return BAD_FRACTION;
        }
        return uneven(steps.wideTop(code), what);
    }

    public long bent(int code, int what) {
        if (!rules.isCode(code)) {
            return BAD_FRACTION;
        }
        return uneven(steps.bentTop(code), what);
    }

    private long uneven(long numerator, int what) {
        if (what < 0 || what > 1) {
            return BAD_FRACTION;
        }
        if (steps.fullScale() <= 0) {
            return STATE_FRACTION;
        }
        fraction.put(numerator, steps.fullScale());
        return fraction.side(what);
    }

    public long worst(int which, int what) {
        if (which < 0 || which > 1 || what < 0 || what > 2) {
            return BAD;
        }
        if (steps.fullScale() <= 0) {
            return STATE;
        }
        int code = steps.worstCode(which);
        if (what == 0) {
            return code;
        }
        fraction.put(steps.unevenSize(which, code), steps.fullScale());
        return fraction.side(what - 1);
    }

    public int back(int what) {
        switch (what) {
            case 0: return steps.stepsBack();
            case 1: return steps.stepsOfNothing();
            case 2: return steps.firstStepBack();
            default: return BAD;
        }
    }

    public int nearest(int v) {
        return isVolt(v) ? steps.closest(v) : BAD;
    }

    // ---- by halves

    public int halves(int v, int b) {
        if (!isVolt(v) || b != NONE && (b < 0 || b >= rules.bits)) {
            return BAD;
        }
        return steps.weigh(v, b);
    }

    public int range(int what) {
        if (what < 0 || what > 3) {
            return BAD;
        }
        int volts = steps.rangeVolts();
        if (volts < 1 || volts > MOST_RANGE_VOLTS) {
            return STATE;
        }
        switch (what) {
            case 0: return steps.codesThatCome();
            case 1: return rules.codes() - steps.codesThatCome();
            case 2: return steps.firstThatNeverComes();
            default: return volts - steps.voltsAtNearest();
        }
    }

    public int weak(int v) {
        if (!isVolt(v)) {
            return BAD;
        }
        int right = steps.weigh(v, NONE);
        int bits = 0;
        for (int b = 0; b < rules.bits; b++) {
            if (steps.weigh(v, b) != right) {
                bits |= 1 << b;
            }
        }
        return bits;
    }

    // ---- many at once

    public int stick(int j, int at) {
        if (!comparers.isComparer(j) || at != NONE && at != 0 && at != 1) {
            return BAD;
        }
        return comparers.stickAt(j, at);
    }

    public int string(int m, int v, int what) {
        if (!Comparers.isSize(m) || !isVolt(v) || what < 0 || what > 3) {
            return BAD;
        }
        comparers.sumResistors(m);
        int words = comparers.wordsOf(v);
        switch (what) {
            case 0: return words;
            case 1: return Comparers.saying(words);
            case 2: return Comparers.edge(words);
            default: return Comparers.bubbles(words);
        }
    }

    public int node(int m, int j) {
        if (!Comparers.isSize(m) || j < 1 || j >= 1 << m) {
            return BAD;
        }
        comparers.sumResistors(m);
        return comparers.leastVolt(j);
    }

    public int strings(int m, int what) {
        if (!Comparers.isSize(m) || what < 0 || what > 1) {
            return BAD;
        }
        comparers.sumResistors(m);
        return what == 0 ? comparers.voltsWithGap() : comparers.voltsOffEven();
    }

    // ---- slopes

    public int slopes(int k, int v, int h, int p, int f) {
        if (!isSlope(k, v, h, p) || f < 0 || f >= p) {
            return BAD;
        }
        return ticksDown(k * v + h * humBalance(k, p, f));
    }

    public int hum(int k, int v, int h, int p) {
        if (!isSlope(k, v, h, p)) {
            return BAD;
        }
        int least = MOST_DOWN_TICKS;
        int greatest = 0;
        for (int f = 0; f < p; f++) {
            int ticks = ticksDown(k * v + h * humBalance(k, p, f));
            least = Math.min(least, ticks);
            greatest = Math.max(greatest, ticks);
        }
        return greatest - least;
    }

    private static boolean isSlope(int k, int v, int h, int p) {
        return k >= 1 && k <= MOST_UP_TICKS && v >= 0 && v <= 999 && h >= 0 && h <= 99
            && p >= 2 && p <= 40 && p % 2 == 0;
    }

    /** Ticks of the first half less those of the second; whole periods come to nothing. */
    private static int humBalance(int k, int p, int f) {
        if (p <= 0) {
            return 0;
        }
        int left = k % p;
        int balance = 0;
        for (int i = 0; i < left; i++) {
            balance += (f + i) % p < p / 2 ? 1 : -1;
        }
        return balance;
    }

    private int ticksDown(int sum) {
        if (sum <= 0) {
            return 0;
        }
        return Math.min(MOST_DOWN_TICKS, dividedUp(sum, rules.ref));
    }

    // ---- kept errors

    public int kept(int order, int v, int f, int n) {
        if (!isKept(order, v) || f < 0 || f > MOST_KEPT_TICKS || n < 1 || n > 30) {
            return BAD;
        }
        keeper.begin(order, v, rules.ref);
        keeper.ticksWithOne(f);
        int bits = 0;
        for (int i = 0; i < n; i++) {
            keeper.tick();
            bits |= keeper.bit << i;
        }
        return bits;
    }

    public int ones(int order, int v, int k) {
        if (!isKept(order, v) || k < 1 || k > MOST_KEPT_TICKS) {
            return BAD;
        }
        keeper.begin(order, v, rules.ref);
        return keeper.ticksWithOne(k);
    }

    public int round(int order, int v, int what) {
        if (!isKept(order, v) || what < 0 || what > 2) {
            return BAD;
        }
        int length = roundLength(order, v);
        if (length == NONE || what == 1) {
            return length;
        }
        int start = enterRound(order, v, length);
        return what == 0 ? start : keeper.ticksWithOne(length);
    }

    private static boolean isKept(int order, int v) {
        return (order == 1 || order == 2) && v >= -999 && v <= 999;
    }

    /**
     * If anything comes again up to the last tick looked at, what is there
     * ahead of that tick is within the round; so the latest tick like it
     * tells the length.
     */
    private int roundLength(int order, int v) {
        otherKeeper.begin(order, v, rules.ref);
        otherKeeper.ticksWithOne(MOST_KEPT_TICKS);
        keeper.begin(order, v, rules.ref);
        int length = NONE;
        for (int tick = 0; tick < MOST_KEPT_TICKS; tick++) {
            if (keeper.isAs(otherKeeper)) {
                length = MOST_KEPT_TICKS - tick;
            }
            keeper.tick();
        }
        return length;
    }

    /** Leaves the keeper ahead of the round's first tick, and answers that tick. */
    private int enterRound(int order, int v, int length) {
        otherKeeper.begin(order, v, rules.ref);
        otherKeeper.ticksWithOne(length);
        keeper.begin(order, v, rules.ref);
        int start = 0;
        while (start < MOST_KEPT_TICKS && !keeper.isAs(otherKeeper)) {
            keeper.tick();
            otherKeeper.tick();
            start++;
        }
        return start;
    }

    // ---- what was measured

    public int measure(int code, int volt) {
        if (!rules.isCode(code) || !isVolt(volt)) {
            return BAD;
        }
        return measures.put(code, volt) ? measures.size : FULL;
    }

    public long reckon(int what) {
        int parts = rules.parts();
        boolean numerator = what == 0 || what >= 10 && what < 10 + parts;
        boolean denominator = what == 1 || what >= 30 && what < 30 + parts;
        if (!numerator && !denominator) {
            return BAD_FRACTION;
        }
        int result = measures.solve();
        if (result == STATE) {
            return STATE_FRACTION;
        }
        if (result == NONE) {
            return NONE_FRACTION;
        }
        int unknown = what <= 1 ? 0 : what - (numerator ? 10 : 30) + 1;
        fraction.put(measures.solved(unknown), measures.divisor);
        return fraction.side(numerator ? 0 : 1);
    }

    public int adopt() {
        int result = measures.solve();
        if (result != Measures.SOLVED) {
            return result;
        }
        if (!measures.canBeAdopted()) {
            return FULL;
        }
        int others = measures.adoptAll();
        steps.reckonOuts();
        return others;
    }

    public int apart(int what) {
        if (what < 0 || what > 2) {
            return BAD;
        }
        int sum = 0;
        int greatest = 0;
        int first = NONE;
        for (int i = 0; i < measures.size; i++) {
            int code = measures.codeAt(i);
            int distance = Math.abs(measures.voltAt(i) - steps.outOf(code));
            sum += distance;
            if (first == NONE || distance > greatest || distance == greatest && code < first) {
                greatest = distance;
                first = code;
            }
        }
        switch (what) {
            case 0: return sum;
            case 1: return greatest;
            default: return first;
        }
    }

    // ---- sheets

    public int sheet(int k, int lane, int n) {
        if (!isSheet(k) || !isLane(lane) || n > Sheet.MOST_CELLS) {
            return BAD;
        }
        if (n < 0) {
            return SIZE_FAULT;
        }
        sheets[k].renew(lane, n);
        return 1;
    }

    public int lay(int k, int i, int v) {
        if (!isSheet(k)) {
            return BAD;
        }
        Sheet row = sheets[k];
        if (row.isNothing()) {
            return NULL_FAULT;
        }
        if (!row.hasCell(i)) {
            return INDEX_FAULT;
        }
        row.putCell(i, v);
        return 1;
    }

    public int wave(int k, int lane, int f, int n, int what) {
        if (!isSheet(k) || !isLane(lane) || n < 0 || n > Sheet.MOST_CELLS
            || what < 0 || what > 2) {
            return BAD;
        }
        Sheet row = sheets[k];
        if (row.isNothing()) {
            return NULL_FAULT;
        }
        if (row.lane != lane) {
            return CAST_FAULT;
        }
        int found = readWave(row, f, n);
        if (found < 0) {
            return found;
        }
        switch (what) {
            case 0: return waveSeen.unlike();
            case 1: return waveSeen.mostOften();
            default: return waveSeen.falls;
        }
    }

    /** Fills waveSeen; answers 0 or the fault met first. */
    private int readWave(Sheet row, int from, int n) {
        waveSeen.clear();
        for (int i = 0; i < n; i++) {
            if (!row.hasCell(from + i)) {
                return INDEX_FAULT;
            }
            int volt = row.cellAt(from + i);
            if (!isVolt(volt)) {
                return NO_VOLT_FAULT - i;
            }
            waveSeen.add(steps.weigh(volt, NONE));
        }
        return 0;
    }

    public int count(int what) {
        switch (what) {
            case 0: return rules.codes();
            case 1: return rules.parts();
            case 2: return measures.size;
            case 3: return comparers.stuckOnes();
            case 4: return tape.length;
            case 5: return sheets[0].size;
            default: return BAD;
        }
    }

    private boolean isSheet(int k) {
        return k >= 0 && k < sheets.length;
    }

    private static boolean isLane(int lane) {
        return lane >= 0 && lane < LANES;
    }

    private static boolean isVolt(int v) {
        return v >= -GREATEST_VOLT && v <= GREATEST_VOLT;
    }

    /** For numbers of 0 or above; a divisor is never 0 or below here, but it is looked at. */
    private static int dividedUp(int number, int divisor) {
        return divisor <= 0 ? 0 : (number + divisor - 1) / divisor;
    }

    /** What a text tells. */
    private static final class Rules {
        static final int MISSES = 9;
        static final int RESISTORS = 16;
        static final int LEAST_BITS = 2;
        static final int MOST_BITS = 8;
        static final int BOUND = 999;
        static final int EVEN_RESISTOR = 10;

        int bits;
        int unit;
        int offset;
        int lean;
        int ref;
        boolean top;
        final int[] misses = new int[MISSES];
        final int[] resistors = new int[RESISTORS];

        Rules() {
            reset();
        }

        void reset() {
            bits = 4;
            unit = 16;
            offset = 0;
            lean = 0;
            ref = 100;
            top = false;
            Arrays.fill(misses, 0);
            Arrays.fill(resistors, EVEN_RESISTOR);
        }

        void copy(Rules other) {
            if (other == null) {
                return;
            }
            bits = other.bits;
            unit = other.unit;
            offset = other.offset;
            lean = other.lean;
            ref = other.ref;
            top = other.top;
            System.arraycopy(other.misses, 0, misses, 0, MISSES);
            System.arraycopy(other.resistors, 0, resistors, 0, RESISTORS);
        }

        int codes() {
            return 1 << bits;
        }

        boolean isCode(int code) {
            return code >= 0 && code < codes();
        }

        int parts() {
            return top ? bits + 1 : bits;
        }

        int missOf(int part) {
            return part >= 0 && part < parts() && part < misses.length ? misses[part] : 0;
        }

        void putMiss(int part, int miss) {
            if (part >= 0 && part < misses.length) {
                misses[part] = miss;
            }
        }

        int resistorAt(int i) {
            return i >= 0 && i < resistors.length ? resistors[i] : 0;
        }

        void putResistor(int i, int ohms) {
            if (i >= 0 && i < resistors.length) {
                resistors[i] = ohms;
            }
        }

        /** What a part would weigh without its miss. */
        int evenWeight(int part) {
            return unit << (top ? Math.min(part, bits - 2) : part);
        }

        int weightOf(int part) {
            return Math.max(0, evenWeight(part) + missOf(part));
        }

        boolean takesPart(int code, int part) {
            if (top && part >= bits - 2) {
                return code >> (bits - 2) > part - (bits - 2);
            }
            return (code >> part & 1) == 1;
        }
    }

    /** The tape, cut into tokens one after another. */
    private static final class Tokens {
        static final int TAPE_BYTES = 200;
        static final int MOST_FIGURES = 3;

        static final int END = 0;
        static final int NAME = 1;
        static final int NUMBER = 2;
        static final int MINUS = 3;
        static final int SEMICOLON = 4;
        static final int NO_TOKEN = 5;
        private static final int BLANK = 6;

        private final byte[] bytes = new byte[TAPE_BYTES];
        int length = 0;

        int kind = END;
        int place = 0;
        int number = 0;
        private int behind = 0;

        boolean append(long v) {
            if (length < 0 || length + 8 > bytes.length) {
                return false;
            }
            for (int i = 0; i < 8; i++) {
                bytes[length + i] = (byte) (v >>> 56 - 8 * i);
            }
            length += 8;
            return true;
        }

        void rewind() {
            behind = 0;
        }

        void advance() {
            place = behind;
            while (place < length && kindAt(place) == BLANK) {
                place++;
            }
            kind = kindAt(place);
            behind = Math.min(place + 1, length);
            if (kind == NAME || kind == NUMBER) {
                while (behind < length && kindAt(behind) == kind) {
                    behind++;
                }
            }
            if (kind == NUMBER) {
                readFigures();
            }
        }

        private void readFigures() {
            if (behind - place > MOST_FIGURES) {
                kind = NO_TOKEN;
                return;
            }
            number = 0;
            for (int i = place; i < behind && i < bytes.length; i++) {
                number = number * 10 + bytes[i] - '0';
            }
        }

        /** The kind of token that a byte can belong to. */
        private int kindAt(int i) {
            if (i < 0 || i >= length || i >= bytes.length) {
                return END;
            }
            int sign = bytes[i];
            if (sign >= 'a' && sign <= 'z') {
                return NAME;
            }
            if (sign >= '0' && sign <= '9') {
                return NUMBER;
            }
            switch (sign) {
                case '-': return MINUS;
                case ';': return SEMICOLON;
                case ' ': return BLANK;
                default: return NO_TOKEN;
            }
        }

        boolean isNamed(String word) {
            if (kind != NAME || word == null || behind - place != word.length()) {
                return false;
            }
            for (int i = 0; i < word.length(); i++) {
                if (word.charAt(i) != byteAt(place + i)) {
                    return false;
                }
            }
            return true;
        }

        private int byteAt(int i) {
            return i >= 0 && i < bytes.length ? bytes[i] : 0;
        }
    }

    /** Reads the lines of the tape into a draft, up to the first fault. */
    private static final class Reader {
        static final int NO_FAULT = 0;
        static final int NO_TOKEN_FAULT = 1;
        static final int ORDER_FAULT = 2;
        static final int BOUNDS_FAULT = 3;
        static final int TOLD_FAULT = 4;
        static final int TOP_FAULT = 5;

        private static final int NO_LINE = -1;
        private static final int BITS = 0;
        private static final int UNIT = 1;
        private static final int OFFSET = 2;
        private static final int TOP = 3;
        private static final int LEAN = 4;
        private static final int REF = 5;
        private static final int MISS = 6;
        private static final int STRING = 7;

        final Tokens tokens;
        final Rules draft;
        int faultFound = NO_FAULT;
        int faultPlace = 0;
        // A bit for each line, part, resistor that has been told.
        private int toldLines = 0;
        private int toldMisses = 0;
        private int toldResistors = 0;

        Reader(Tokens tokens, Rules draft) {
            this.tokens = tokens;
            this.draft = draft;
        }

        /** Answers how many lines there are, or anything if there is a fault. */
        int readTape() {
            faultFound = NO_FAULT;
            toldLines = 0;
            toldMisses = 0;
            toldResistors = 0;
            draft.reset();
            tokens.rewind();
            tokens.advance();
            int lines = 0;
            while (lines < Tokens.TAPE_BYTES && faultFound == NO_FAULT
                && tokens.kind != Tokens.END) {
                readLine();
                lines++;
            }
            if (faultFound == NO_FAULT && draft.top && draft.bits == Rules.LEAST_BITS) {
                refuse(TOP_FAULT, 0);
            }
            return lines;
        }

        private void readLine() {
            if (!stands(Tokens.NAME)) {
                return;
            }
            int line = lineNamed();
            if (line == NO_LINE) {
                refuse(ORDER_FAULT, tokens.place);
                return;
            }
            if (isTold(toldLines, line)) {
                refuse(TOLD_FAULT, tokens.place);
                return;
            }
            tokens.advance();
            switch (line) {
                case BITS: draft.bits = takeNumber(Rules.LEAST_BITS, Rules.MOST_BITS); break;
                case UNIT: draft.unit = takeNumber(1, 99); break;
                case OFFSET: draft.offset = takeNumber(-Rules.BOUND, Rules.BOUND); break;
                case TOP: draft.top = true; break;
                case LEAN: draft.lean = takeNumber(-Rules.BOUND, Rules.BOUND); break;
                case REF: draft.ref = takeNumber(1, Rules.BOUND); break;
                case MISS: readMiss(); break;
                default: readResistor(); break;
            }
            // Lines of these two are told once for each part, each resistor.
            if (line != MISS && line != STRING) {
                toldLines |= 1 << line;
            }
            if (stands(Tokens.SEMICOLON)) {
                tokens.advance();
            }
        }

        private int lineNamed() {
            if (tokens.isNamed("bits")) {
                return BITS;
            }
            if (tokens.isNamed("unit")) {
                return UNIT;
            }
            if (tokens.isNamed("offset")) {
                return OFFSET;
            }
            if (tokens.isNamed("top")) {
                return TOP;
            }
            if (tokens.isNamed("lean")) {
                return LEAN;
            }
            if (tokens.isNamed("ref")) {
                return REF;
            }
            if (tokens.isNamed("miss")) {
                return MISS;
            }
            return tokens.isNamed("string") ? STRING : NO_LINE;
        }

        private void readMiss() {
            int part = takeFresh(Rules.MISSES, toldMisses);
            int miss = takeNumber(-Rules.BOUND, Rules.BOUND);
            if (faultFound == NO_FAULT) {
                toldMisses |= 1 << part;
                draft.putMiss(part, miss);
            }
        }

        private void readResistor() {
            int resistor = takeFresh(Rules.RESISTORS, toldResistors);
            int more = takeNumber(-9, 89);
            if (faultFound == NO_FAULT) {
                toldResistors |= 1 << resistor;
                draft.putResistor(resistor, Rules.EVEN_RESISTOR + more);
            }
        }

        /** A number below a bound that has not been told. */
        private int takeFresh(int bound, int told) {
            if (!stands(Tokens.NUMBER)) {
                return 0;
            }
            int number = tokens.number;
            if (number >= bound) {
                refuse(BOUNDS_FAULT, tokens.place);
                return 0;
            }
            if (isTold(told, number)) {
                refuse(TOLD_FAULT, tokens.place);
                return 0;
            }
            tokens.advance();
            return number;
        }

        /** A number within bounds; a minus can stand ahead of it if the least is below 0. */
        private int takeNumber(int least, int greatest) {
            int sign = 1;
            if (faultFound == NO_FAULT && least < 0 && tokens.kind == Tokens.MINUS) {
                sign = -1;
                tokens.advance();
            }
            if (!stands(Tokens.NUMBER)) {
                return 0;
            }
            int number = sign * tokens.number;
            if (number < least || number > greatest) {
                refuse(BOUNDS_FAULT, tokens.place);
                return 0;
            }
            tokens.advance();
            return number;
        }

        /** Whether the token at hand is of this kind; if not, that is the fault. */
        private boolean stands(int kind) {
            if (faultFound != NO_FAULT) {
                return false;
            }
            if (tokens.kind == kind) {
                return true;
            }
            refuse(tokens.kind == Tokens.NO_TOKEN ? NO_TOKEN_FAULT : ORDER_FAULT, tokens.place);
            return false;
        }

        private void refuse(int fault, int place) {
            faultFound = fault;
            faultPlace = place;
        }

        private static boolean isTold(int told, int bit) {
            return (told >> bit & 1) == 1;
        }
    }

    /** A fraction in lowest terms, its denominator above 0. */
    private static final class Fraction {
        private static final int MOST_EUCLID_ROUNDS = 200;

        private long numerator = 0;
        private long denominator = 1;

        void put(long top, long bottom) {
            long common = commonDivisor(Math.abs(top), Math.abs(bottom));
            if (bottom == 0 || common == 0) {
                numerator = 0;
                denominator = 1;
                return;
            }
            long sign = bottom < 0 ? -1 : 1;
            numerator = sign * top / common;
            denominator = sign * bottom / common;
        }

        long side(int what) {
            return what == 0 ? numerator : denominator;
        }

        private static long commonDivisor(long a, long b) {
            for (int i = 0; i < MOST_EUCLID_ROUNDS && b != 0; i++) {
                long rest = a % b;
                a = b;
                b = rest;
            }
            return a;
        }
    }

    /** The OUT of each code, and what follows from these. */
    private static final class Steps {
        private static final int MOST_CODES = 256;

        private final Rules rules;
        private final int[] outs = new int[MOST_CODES];
        private final Span span = new Span();

        Steps(Rules rules) {
            this.rules = rules;
            reckonOuts();
        }

        void reckonOuts() {
            int codes = rules.codes();
            for (int code = 0; code < codes && code < outs.length; code++) {
                outs[code] = sumOf(code);
            }
        }

        private int sumOf(int code) {
            int sum = rules.offset;
            int parts = rules.parts();
            for (int part = 0; part < parts; part++) {
                if (rules.takesPart(code, part)) {
                    sum += rules.weightOf(part);
                }
            }
            return sum;
        }

        int outOf(int code) {
            return code >= 0 && code < outs.length ? outs[code] : 0;
        }

        int lastCode() {
            return rules.codes() - 1;
        }

        int fullScale() {
            return outOf(lastCode()) - outOf(0);
        }

        private int stepOf(int code) {
            return outOf(code + 1) - outOf(code);
        }

        /** The numerator of WIDE over the full scale. */
        long wideTop(int code) {
            return (long) stepOf(code) * lastCode() - fullScale();
        }

        /** The numerator of BENT over the full scale. */
        long bentTop(int code) {
            return (long) (outOf(code) - outOf(0)) * lastCode() - (long) code * fullScale();
        }

        long unevenSize(int which, int code) {
            return Math.abs(which == 0 ? wideTop(code) : bentTop(code));
        }

        int worstCode(int which) {
            int last = which == 0 ? lastCode() - 1 : lastCode();
            int worst = 0;
            for (int code = 1; code <= last; code++) {
                if (unevenSize(which, code) > unevenSize(which, worst)) {
                    worst = code;
                }
            }
            return worst;
        }

        int stepsBack() {
            int found = 0;
            int last = lastCode();
            for (int code = 0; code < last; code++) {
                if (stepOf(code) < 0) {
                    found++;
                }
            }
            return found;
        }

        int stepsOfNothing() {
            int found = 0;
            int last = lastCode();
            for (int code = 0; code < last; code++) {
                if (stepOf(code) == 0) {
                    found++;
                }
            }
            return found;
        }

        int firstStepBack() {
            int last = lastCode();
            for (int code = 0; code < last; code++) {
                if (stepOf(code) < 0) {
                    return code;
                }
            }
            return NONE;
        }

        int closest(int volt) {
            int last = lastCode();
            int best = 0;
            for (int code = 1; code <= last; code++) {
                if (Math.abs(volt - outOf(code)) < Math.abs(volt - outOf(best))) {
                    best = code;
                }
            }
            return best;
        }

        /** By halves; wrongBit tells the trial at which the comparer says the other thing. */
        int weigh(int volt, int wrongBit) {
            int code = 0;
            for (int bit = rules.bits - 1; bit >= 0; bit--) {
                int trial = code | 1 << bit;
                boolean yes = volt + rules.lean >= outOf(trial);
                if (yes != (bit == wrongBit)) {
                    code = trial;
                }
            }
            return code;
        }

        private int rangeLow() {
            return outOf(0) - rules.unit;
        }

        private int rangeHigh() {
            return outOf(lastCode()) + rules.unit;
        }

        int rangeVolts() {
            return rangeHigh() - rangeLow() + 1;
        }

        int codesThatCome() {
            int come = 0;
            int codes = rules.codes();
            for (int code = 0; code < codes; code++) {
                if (comes(code)) {
                    come++;
                }
            }
            return come;
        }

        int firstThatNeverComes() {
            int codes = rules.codes();
            for (int code = 0; code < codes; code++) {
                if (!comes(code)) {
                    return code;
                }
            }
            return NONE;
        }

        int voltsAtNearest() {
            int volts = 0;
            int codes = rules.codes();
            for (int code = 0; code < codes; code++) {
                if (comes(code)) {
                    cutToNearest(code);
                    volts += span.volts();
                }
            }
            return volts;
        }

        /**
         * Cuts the span to the volts of RANGE that come to a code by halves:
         * each trial on the way to it bounds them on one side.
         */
        private boolean comes(int code) {
            span.low = rangeLow();
            span.high = rangeHigh();
            for (int bit = rules.bits - 1; bit >= 0; bit--) {
                int trial = (code >> bit | 1) << bit;
                int leastYes = outOf(trial) - rules.lean;
                if ((code >> bit & 1) == 1) {
                    span.cutLow(leastYes);
                } else {
                    span.cutHigh(leastYes - 1);
                }
            }
            return span.volts() > 0;
        }

        /**
         * Cuts the span to the volts to which a code is the nearest: only the
         * next OUT below and above bound them, and the lesser code wins a tie.
         */
        private void cutToNearest(int code) {
            int own = outOf(code);
            int below = NONE;
            int above = NONE;
            int codes = rules.codes();
            for (int other = 0; other < codes; other++) {
                int its = outOf(other);
                if (its == own && other < code) {
                    span.cutHigh(span.low - 1);
                    return;
                }
                if (its < own && (below == NONE || its > outOf(below))) {
                    below = other;
                }
                if (its > own && (above == NONE || its < outOf(above))) {
                    above = other;
                }
            }
            if (below != NONE) {
                span.cutLow(Math.floorDiv(own + outOf(below) + (code < below ? 1 : 2), 2));
            }
            if (above != NONE) {
                span.cutHigh(Math.floorDiv(own + outOf(above) - (code < above ? 0 : 1), 2));
            }
        }
    }

    /** Volts from low to high; none, if high is below low. */
    private static final class Span {
        int low = 0;
        int high = -1;

        void cutLow(int volt) {
            low = Math.max(low, volt);
        }

        void cutHigh(int volt) {
            high = Math.min(high, volt);
        }

        int volts() {
            return high < low ? 0 : high - low + 1;
        }
    }

    /** The comparers along the string of resistors. */
    private static final class Comparers {
        private static final int COMPARERS = 15;

        private final Rules rules;
        private final int[] stuck = new int[COMPARERS + 1];
        // How much resistance lies below the node of each comparer, and of all at the end.
        private final int[] below = new int[Rules.RESISTORS + 1];
        private int size = 0;

        Comparers(Rules rules) {
            this.rules = rules;
            Arrays.fill(stuck, NONE);
        }

        static boolean isSize(int m) {
            return m >= 2 && m <= 4;
        }

        boolean isComparer(int j) {
            return j >= 1 && j < stuck.length;
        }

        int stickAt(int j, int at) {
            int was = stuckAt(j);
            if (isComparer(j)) {
                stuck[j] = at;
            }
            return was;
        }

        private int stuckAt(int j) {
            return isComparer(j) ? stuck[j] : NONE;
        }

        int stuckOnes() {
            int found = 0;
            for (int j = 1; j < stuck.length; j++) {
                if (stuck[j] != NONE) {
                    found++;
                }
            }
            return found;
        }

        /** Must come ahead of all that looks at a string of m bits. */
        void sumResistors(int m) {
            size = 1 << m;
            for (int i = 0; i < size && i + 1 < below.length; i++) {
                below[i + 1] = below[i] + rules.resistorAt(i);
            }
        }

        private int belowNode(int j) {
            return j >= 0 && j < below.length ? below[j] : 0;
        }

        private boolean saysOne(int j, int volt) {
            int at = stuckAt(j);
            if (at != NONE) {
                return at == 1;
            }
            return volt * belowNode(size) >= rules.ref * belowNode(j);
        }

        /** What all say, comparer 1 the lowest bit. */
        int wordsOf(int volt) {
            int words = 0;
            for (int j = 1; j < size; j++) {
                if (saysOne(j, volt)) {
                    words |= 1 << j - 1;
                }
            }
            return words;
        }

        static int saying(int words) {
            return Integer.bitCount(words);
        }

        static int edge(int words) {
            return Integer.bitCount(words & ~(words + 1));
        }

        static int bubbles(int words) {
            return Integer.bitCount(~words & words >> 1);
        }

        int leastVolt(int j) {
            return dividedUp(rules.ref * belowNode(j), belowNode(size));
        }

        int voltsWithGap() {
            int found = 0;
            for (int volt = 0; volt <= rules.ref; volt++) {
                int words = wordsOf(volt);
                if (saying(words) != edge(words)) {
                    found++;
                }
            }
            return found;
        }

        int voltsOffEven() {
            int found = 0;
            for (int volt = 0; volt <= rules.ref && rules.ref > 0; volt++) {
                int even = Math.min(size - 1, volt * size / rules.ref);
                if (saying(wordsOf(volt)) != even) {
                    found++;
                }
            }
            return found;
        }
    }

    /** One bit again and again, whose error is kept. */
    private static final class Keeper {
        private static final int MOST_KEPT = 1000000;

        private int order = 1;
        private int volt = 0;
        private int ref = 1;
        private int s = 0;
        private int t = 0;
        int bit = NONE;

        void begin(int newOrder, int newVolt, int newRef) {
            order = newOrder;
            volt = newVolt;
            ref = newRef;
            s = 0;
            t = 0;
            bit = NONE;
        }

        void tick() {
            if (order == 1) {
                s += volt;
                bit = s >= 0 ? 1 : 0;
                s -= given();
            } else {
                int given = given();
                s += volt - given;
                t += s - given;
                bit = t >= 0 ? 1 : 0;
            }
            s = cut(s);
            t = cut(t);
        }

        private int given() {
            if (bit == NONE) {
                return 0;
            }
            return bit == 1 ? ref : -ref;
        }

        private static int cut(int sum) {
            return Math.max(-MOST_KEPT, Math.min(MOST_KEPT, sum));
        }

        int ticksWithOne(int ticks) {
            int found = 0;
            for (int i = 0; i < ticks; i++) {
                tick();
                found += bit;
            }
            return found;
        }

        boolean isAs(Keeper other) {
            if (other == null || s != other.s) {
                return false;
            }
            return order == 1 || t == other.t && bit == other.bit;
        }
    }

    /** What was measured, and the offset and weights that follow from it. */
    private static final class Measures {
        static final int SOLVED = 0;
        private static final int MOST_MEASURED = 12;
        // The offset, the weights and, behind these, the volt.
        private static final int WIDTH = 1 + Rules.MISSES + 1;

        private final Rules rules;
        private final int[] codes = new int[MOST_MEASURED];
        private final int[] volts = new int[MOST_MEASURED];
        private final long[] grid = new long[MOST_MEASURED * WIDTH];
        private int unknowns = 0;
        int size = 0;
        long divisor = 1;

        Measures(Rules rules) {
            this.rules = rules;
        }

        int codeAt(int i) {
            return i >= 0 && i < codes.length ? codes[i] : 0;
        }

        int voltAt(int i) {
            return i >= 0 && i < volts.length ? volts[i] : 0;
        }

        boolean put(int code, int volt) {
            int i = 0;
            while (i < size && codeAt(i) != code) {
                i++;
            }
            if (i >= codes.length || i >= volts.length) {
                return false;
            }
            codes[i] = code;
            volts[i] = volt;
            size = Math.max(size, i + 1);
            return true;
        }

        /**
         * Clears column by column without fractions: every cell stays a
         * determinant of the first grid, so each division comes out even.
         * Answers SOLVED, STATE or NONE.
         */
        int solve() {
            fillGrid();
            int rank = 0;
            divisor = 1;
            for (int column = 0; column < unknowns; column++) {
                int row = rowWith(column, rank);
                if (row != NONE) {
                    swapRows(row, rank);
                    clearColumn(column, rank);
                    divisor = cell(rank, column);
                    rank++;
                }
            }
            for (int row = rank; row < size; row++) {
                if (cell(row, unknowns) != 0) {
                    return STATE;
                }
            }
            return rank < unknowns ? NONE : SOLVED;
        }

        private void fillGrid() {
            int parts = rules.parts();
            unknowns = 1 + parts;
            for (int row = 0; row < size; row++) {
                putCell(row, 0, 1);
                for (int part = 0; part < parts; part++) {
                    putCell(row, 1 + part, rules.takesPart(codeAt(row), part) ? 1 : 0);
                }
                putCell(row, unknowns, voltAt(row));
            }
        }

        private int rowWith(int column, int from) {
            for (int row = from; row < size; row++) {
                if (cell(row, column) != 0) {
                    return row;
                }
            }
            return NONE;
        }

        private void swapRows(int a, int b) {
            for (int column = 0; column <= unknowns; column++) {
                long kept = cell(a, column);
                putCell(a, column, cell(b, column));
                putCell(b, column, kept);
            }
        }

        private void clearColumn(int column, int pivotRow) {
            long pivot = cell(pivotRow, column);
            for (int row = 0; row < size; row++) {
                if (row != pivotRow) {
                    clearCell(row, column, pivotRow, pivot);
                }
            }
        }

        private void clearCell(int row, int column, int pivotRow, long pivot) {
            if (divisor == 0) {
                return;
            }
            long factor = cell(row, column);
            for (int i = 0; i <= unknowns; i++) {
                long crossed = pivot * cell(row, i) - factor * cell(pivotRow, i);
                putCell(row, i, crossed / divisor);
            }
        }

        private long cell(int row, int column) {
            int at = row * WIDTH + column;
            return at >= 0 && at < grid.length ? grid[at] : 0;
        }

        private void putCell(int row, int column, long value) {
            int at = row * WIDTH + column;
            if (at >= 0 && at < grid.length) {
                grid[at] = value;
            }
        }

        /** The numerator over the divisor: of the offset (0), of the weight of a part (1 and it). */
        long solved(int unknown) {
            return cell(unknown, unknowns);
        }

        boolean canBeAdopted() {
            for (int unknown = 0; unknown < unknowns; unknown++) {
                if (divisor == 0 || solved(unknown) % divisor != 0 || !isWithinBounds(unknown)) {
                    return false;
                }
            }
            return true;
        }

        /** A part weighs 0 at least: no miss makes it weigh less, though one within bounds could be told. */
        private boolean isWithinBounds(int unknown) {
            if (unknown > 0 && whole(unknown) < 0) {
                return false;
            }
            long value = newRule(unknown);
            return value >= -Rules.BOUND && value <= Rules.BOUND;
        }

        private long whole(int unknown) {
            return divisor == 0 ? 0 : solved(unknown) / divisor;
        }

        /** The offset or miss that makes an unknown as it was solved. */
        private long newRule(int unknown) {
            return unknown == 0 ? whole(0) : whole(unknown) - rules.evenWeight(unknown - 1);
        }

        /** Answers how many became others. */
        int adoptAll() {
            int others = 0;
            int offset = (int) newRule(0);
            if (offset != rules.offset) {
                others++;
            }
            rules.offset = offset;
            for (int part = 0; part < unknowns - 1; part++) {
                int miss = (int) newRule(1 + part);
                if (miss != rules.missOf(part)) {
                    others++;
                }
                rules.putMiss(part, miss);
            }
            return others;
        }
    }

    /** A row of cells of one lane, or nothing. */
    private static final class Sheet {
        static final int MOST_CELLS = 64;
        private static final int BYTES = 0;
        private static final int SHORTS = 1;

        private final int[] cells = new int[MOST_CELLS];
        int lane = BYTES;
        int size = NONE;

        boolean isNothing() {
            return size == NONE;
        }

        void renew(int newLane, int newSize) {
            lane = newLane;
            size = newSize;
            Arrays.fill(cells, 0);
        }

        boolean hasCell(int i) {
            return i >= 0 && i < size && i < cells.length;
        }

        int cellAt(int i) {
            return hasCell(i) ? cells[i] : 0;
        }

        void putCell(int i, int v) {
            if (hasCell(i)) {
                cells[i] = lowestBits(v);
            }
        }

        private int lowestBits(int v) {
            if (lane == BYTES) {
                return (byte) v;
            }
            return lane == SHORTS ? (short) v : v;
        }
    }

    /** The codes that came while a wave was read. */
    private static final class Wave {
        private final int[] times = new int[Steps.MOST_CODES];
        private int before = NONE;
        int falls = 0;

        void clear() {
            Arrays.fill(times, 0);
            before = NONE;
            falls = 0;
        }

        void add(int code) {
            if (code < 0 || code >= times.length) {
                return;
            }
            if (code < before) {
                falls++;
            }
            before = code;
            times[code]++;
        }

        int unlike() {
            int found = 0;
            for (int code = 0; code < times.length; code++) {
                if (times[code] > 0) {
                    found++;
                }
            }
            return found;
        }

        int mostOften() {
            int most = 0;
            int found = NONE;
            for (int code = 0; code < times.length; code++) {
                if (times[code] > most) {
                    most = times[code];
                    found = code;
                }
            }
            return found;
        }
    }
}
