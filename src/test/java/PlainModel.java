import java.math.BigInteger;
import java.util.ArrayList;
import java.util.Arrays;
import java.util.HashSet;
import java.util.List;
import java.util.Map;
import java.util.Set;
import java.util.TreeMap;
import java.util.regex.Matcher;
import java.util.regex.Pattern;

/**
 * All that the document says, done in the slowest and plainest way: volts are
 * tried one by one, ticks are counted one by one, fractions are kept as such.
 */
final class PlainModel {
    private static final long BAD = -1, STATE = -2, FULL = -3, NONE = -4;
    private static final long FAR = -10000000000L;
    private static final Pattern TOKEN = Pattern.compile("[a-z]+|[0-9]+|[-;]");

    private StringBuilder tape = new StringBuilder();
    private Map<String, Integer> rules = new TreeMap<>();
    private int fault = 0;
    private final int[] stuck = new int[16];
    private final Map<Integer, Integer> measured = new TreeMap<>();
    private final Object[] sheets = new Object[4];

    PlainModel() {
        Arrays.fill(stuck, -4);
    }

    // ---- the text

    long feed(long v) {
        if (tape.length() > 192) {
            return FULL;
        }
        for (byte b : java.nio.ByteBuffer.allocate(8).putLong(v).array()) {
            tape.append((char) (b & 255));
        }
        return tape.length();
    }

    long end(int n) {
        if (n < 0 || n > tape.length()) {
            return BAD;
        }
        int had = tape.length();
        tape.setLength(n);
        return had;
    }

    /** Each fault is thrown as it is met. */
    private static final class Fault extends Exception {
        final int number;
        final int place;

        Fault(int number, int place) {
            this.number = number;
            this.place = place;
        }
    }

    private String source;
    private int at;
    private String token;
    private int tokenAt;

    private void next() throws Fault {
        while (at < source.length() && source.charAt(at) == ' ') {
            at++;
        }
        tokenAt = at;
        if (at == source.length()) {
            token = "";
            return;
        }
        Matcher matcher = TOKEN.matcher(source).region(at, source.length());
        if (!matcher.lookingAt() || matcher.group().matches("[0-9]{4,}")) {
            throw new Fault(1, at);
        }
        token = matcher.group();
        at = matcher.end();
    }

    private void semicolon() throws Fault {
        if (!token.equals(";")) {
            throw new Fault(2, tokenAt);
        }
        next();
    }

    private int figures() throws Fault {
        if (!token.matches("[0-9]+")) {
            throw new Fault(2, tokenAt);
        }
        return Integer.parseInt(token);
    }

    private int number(int low, int high, boolean signed) throws Fault {
        int sign = 1;
        if (signed && token.equals("-")) {
            sign = -1;
            next();
        }
        int value = sign * figures();
        if (value < low || value > high) {
            throw new Fault(3, tokenAt);
        }
        next();
        return value;
    }

    private int fresh(String name, int most, Map<String, Integer> told) throws Fault {
        int which = figures();
        if (which > most) {
            throw new Fault(3, tokenAt);
        }
        if (told.containsKey(name + which)) {
            throw new Fault(4, tokenAt);
        }
        next();
        return which;
    }

    private void line(Map<String, Integer> told) throws Fault {
        String name = token;
        if (!List.of("bits", "unit", "miss", "offset", "top", "lean", "string", "ref").contains(name)) {
            throw new Fault(2, tokenAt);
        }
        if (told.containsKey(name)) {
            throw new Fault(4, tokenAt);
        }
        next();
        switch (name) {
            case "bits" -> told.put(name, number(2, 8, false));
            case "unit" -> told.put(name, number(1, 99, false));
            case "ref" -> told.put(name, number(1, 999, false));
            case "offset", "lean" -> told.put(name, number(-999, 999, true));
            case "top" -> told.put(name, 1);
            case "miss" -> told.put("miss" + fresh(name, 8, told), number(-999, 999, true));
            default -> told.put("string" + fresh(name, 15, told), number(-9, 89, true));
        }
        semicolon();
    }

    long text() {
        source = tape.toString();
        tape.setLength(0);
        at = 0;
        Map<String, Integer> told = new TreeMap<>();
        int lines = 0;
        try {
            next();
            while (!token.isEmpty()) {
                line(told);
                lines++;
            }
            if (told.containsKey("top") && told.getOrDefault("bits", 4) == 2) {
                throw new Fault(5, 0);
            }
        } catch (Fault met) {
            fault = met.number;
            return -10 - met.place;
        }
        fault = 0;
        rules = told;
        measured.clear();
        return lines;
    }

    long fault() {
        return fault;
    }

    private int bits() {
        return rules.getOrDefault("bits", 4);
    }

    private int unit() {
        return rules.getOrDefault("unit", 16);
    }

    private int offset() {
        return rules.getOrDefault("offset", 0);
    }

    private boolean top() {
        return rules.containsKey("top");
    }

    private int lean() {
        return rules.getOrDefault("lean", 0);
    }

    private int ref() {
        return rules.getOrDefault("ref", 100);
    }

    private int parts() {
        return bits() + (top() ? 1 : 0);
    }

    private int miss(int part) {
        return part < parts() ? rules.getOrDefault("miss" + part, 0) : 0;
    }

    private int resistor(int i) {
        return 10 + rules.getOrDefault("string" + i, 0);
    }

    long rule(int what) {
        if (what >= 0 && what <= 5) {
            return new int[] {bits(), unit(), offset(), top() ? 1 : 0, lean(), ref()}[what];
        }
        if (what >= 10 && what <= 18) {
            return miss(what - 10);
        }
        return what >= 30 && what <= 45 ? resistor(what - 30) : -1000;
    }

    // ---- steps

    private int codes() {
        return (int) Math.pow(2, bits());
    }

    private int nominal(int part) {
        int power = top() && part >= bits() - 2 ? bits() - 2 : part;
        return unit() * (int) Math.pow(2, power);
    }

    /** The parts that a code takes. */
    private Set<Integer> taken(int code) {
        Set<Integer> parts = new HashSet<>();
        int single = top() ? bits() - 2 : bits();
        for (int bit = 0; bit < single; bit++) {
            if (code / (1 << bit) % 2 == 1) {
                parts.add(bit);
            }
        }
        if (top()) {
            int many = code / (1 << bits() - 2);
            for (int i = 0; i < many; i++) {
                parts.add(bits() - 2 + i);
            }
        }
        return parts;
    }

    private int outOf(int code) {
        int sum = offset();
        for (int part : taken(code)) {
            sum += Math.max(0, nominal(part) + miss(part));
        }
        return sum;
    }

    private boolean isCode(int code) {
        return code >= 0 && code < codes();
    }

    private static boolean isVolt(int v) {
        return v >= -99999 && v <= 99999;
    }

    long out(int code) {
        return isCode(code) ? outOf(code) : -100000;
    }

    /** A fraction in lowest terms. */
    private static final class Part {
        final BigInteger n;
        final BigInteger d;

        Part(BigInteger n, BigInteger d) {
            BigInteger common = n.gcd(d).multiply(BigInteger.valueOf(d.signum()));
            this.n = n.divide(common);
            this.d = d.divide(common);
        }

        static Part of(long n) {
            return new Part(BigInteger.valueOf(n), BigInteger.ONE);
        }

        Part less(Part other) {
            return new Part(n.multiply(other.d).subtract(other.n.multiply(d)), d.multiply(other.d));
        }

        Part times(Part other) {
            return new Part(n.multiply(other.n), d.multiply(other.d));
        }

        Part by(Part other) {
            return new Part(n.multiply(other.d), d.multiply(other.n));
        }

        Part size() {
            return new Part(n.abs(), d);
        }

        boolean isZero() {
            return n.signum() == 0;
        }

        boolean above(Part other) {
            return less(other).n.signum() > 0;
        }

        long side(int what) {
            return what == 0 ? n.longValueExact() : d.longValueExact();
        }
    }

    private Part lsbPart() {
        return Part.of(outOf(codes() - 1) - outOf(0)).by(Part.of(codes() - 1));
    }

    private Part widePart(int code) {
        return Part.of(outOf(code + 1) - outOf(code)).by(lsbPart()).less(Part.of(1));
    }

    private Part bentPart(int code) {
        Part should = Part.of(code).times(lsbPart());
        return Part.of(outOf(code) - outOf(0)).less(should).by(lsbPart());
    }

    long lsb(int what) {
        return what == 0 || what == 1 ? lsbPart().side(what) : -1000000;
    }

    private boolean noScale() {
        return lsbPart().n.signum() <= 0;
    }

    long wide(int code, int what) {
        if (!isCode(code) || code == codes() - 1 || what != 0 && what != 1) {
            return FAR;
        }
        return noScale() ? FAR + STATE : widePart(code).side(what);
    }

    long bent(int code, int what) {
        if (!isCode(code) || what != 0 && what != 1) {
            return FAR;
        }
        return noScale() ? FAR + STATE : bentPart(code).side(what);
    }

    long worst(int which, int what) {
        if (which < 0 || which > 1 || what < 0 || what > 2) {
            return BAD;
        }
        if (noScale()) {
            return STATE;
        }
        int found = 0;
        Part worst = Part.of(-1);
        for (int code = 0; code < codes() - (which == 0 ? 1 : 0); code++) {
            Part it = (which == 0 ? widePart(code) : bentPart(code)).size();
            if (it.above(worst)) {
                worst = it;
                found = code;
            }
        }
        return what == 0 ? found : worst.side(what - 1);
    }

    long back(int what) {
        if (what < 0 || what > 2) {
            return BAD;
        }
        int below = 0;
        int nothing = 0;
        long first = NONE;
        for (int code = codes() - 2; code >= 0; code--) {
            int step = outOf(code + 1) - outOf(code);
            if (step < 0) {
                below++;
                first = code;
            }
            if (step == 0) {
                nothing++;
            }
        }
        return what == 0 ? below : what == 1 ? nothing : first;
    }

    long nearest(int v) {
        return isVolt(v) ? nearestOf(v, outs()) : BAD;
    }

    private int[] outs() {
        int[] outs = new int[codes()];
        for (int code = 0; code < outs.length; code++) {
            outs[code] = outOf(code);
        }
        return outs;
    }

    private static int nearestOf(int v, int[] outs) {
        for (int far = 0; ; far++) {
            for (int code = 0; code < outs.length; code++) {
                if (outs[code] == v - far || outs[code] == v + far) {
                    return code;
                }
            }
        }
    }

    // ---- by halves

    private int weighed(int v, int wrong, int[] outs) {
        int code = 0;
        for (int bit = bits() - 1; bit >= 0; bit--) {
            boolean yes = v + lean() >= outs[code + (1 << bit)];
            if (bit == wrong) {
                yes = !yes;
            }
            if (yes) {
                code += 1 << bit;
            }
        }
        return code;
    }

    long halves(int v, int b) {
        if (!isVolt(v) || b != NONE && (b < 0 || b >= bits())) {
            return BAD;
        }
        return weighed(v, b, outs());
    }

    long range(int what) {
        if (what < 0 || what > 3) {
            return BAD;
        }
        int[] outs = outs();
        int low = outs[0] - unit();
        int high = outs[outs.length - 1] + unit();
        if (high - low + 1 > 20000 || high < low) {
            return STATE;
        }
        Set<Integer> come = new HashSet<>();
        int off = 0;
        for (int v = low; v <= high; v++) {
            int code = weighed(v, -4, outs);
            come.add(code);
            if (what == 3 && code != nearestOf(v, outs)) {
                off++;
            }
        }
        if (what == 2) {
            for (int code = 0; code < outs.length; code++) {
                if (!come.contains(code)) {
                    return code;
                }
            }
            return NONE;
        }
        return what == 0 ? come.size() : what == 1 ? outs.length - come.size() : off;
    }

    long weak(int v) {
        if (!isVolt(v)) {
            return BAD;
        }
        int found = 0;
        for (int b = 0; b < bits(); b++) {
            if (weighed(v, b, outs()) != weighed(v, -4, outs())) {
                found += 1 << b;
            }
        }
        return found;
    }

    // ---- many at once

    long stick(int j, int to) {
        if (j < 1 || j > 15 || to != NONE && to != 0 && to != 1) {
            return BAD;
        }
        int was = stuck[j];
        stuck[j] = to;
        return was;
    }

    private int[] resistors(int m) {
        int[] resistors = new int[1 << m];
        for (int i = 0; i < resistors.length; i++) {
            resistors[i] = resistor(i);
        }
        return resistors;
    }

    private static boolean atNode(int[] resistors, int ref, int j, long v) {
        long all = 0;
        long below = 0;
        for (int i = 0; i < resistors.length; i++) {
            all += resistors[i];
            below += i < j ? resistors[i] : 0;
        }
        return v * all >= ref * below;
    }

    private boolean[] says(int m, int v) {
        boolean[] says = new boolean[1 << m];
        int[] resistors = resistors(m);
        int ref = ref();
        for (int j = 1; j < says.length; j++) {
            says[j] = stuck[j] == NONE ? atNode(resistors, ref, j, v) : stuck[j] == 1;
        }
        return says;
    }

    long string(int m, int v, int what) {
        if (m < 2 || m > 4 || !isVolt(v) || what < 0 || what > 3) {
            return BAD;
        }
        boolean[] says = says(m, v);
        int words = 0;
        int many = 0;
        int bubbles = 0;
        int edge = 0;
        for (int j = 1; j < says.length; j++) {
            words += says[j] ? 1 << j - 1 : 0;
            many += says[j] ? 1 : 0;
            bubbles += j > 1 && !says[j - 1] && says[j] ? 1 : 0;
            edge += edge == j - 1 && says[j] ? 1 : 0;
        }
        return new int[] {words, many, edge, bubbles}[what];
    }

    long node(int m, int j) {
        if (m < 2 || m > 4 || j < 1 || j >= 1 << m) {
            return BAD;
        }
        int v = 0;
        while (!atNode(resistors(m), ref(), j, v)) {
            v++;
        }
        return v;
    }

    long strings(int m, int what) {
        if (m < 2 || m > 4 || what < 0 || what > 1) {
            return BAD;
        }
        int found = 0;
        for (int v = 0; v <= ref(); v++) {
            long many = string(m, v, 1);
            long other = what == 0 ? string(m, v, 2) : Math.min((1 << m) - 1, (v << m) / ref());
            found += many == other ? 0 : 1;
        }
        return found;
    }

    // ---- slopes

    long slopes(int k, int v, int h, int p, int f) {
        if (k < 1 || k > 400 || v < 0 || v > 999 || h < 0 || h > 99
            || p < 2 || p > 40 || p % 2 != 0 || f < 0 || f >= p) {
            return BAD;
        }
        int sum = 0;
        int of = f;
        for (int tick = 0; tick < k; tick++) {
            sum += v;
            sum += of < p / 2 ? h : -h;
            of++;
            if (of == p) {
                of = 0;
            }
        }
        int ticks = 0;
        while (sum > 0 && ticks < 1000) {
            sum -= ref();
            ticks++;
        }
        return ticks;
    }

    long hum(int k, int v, int h, int p) {
        if (slopes(k, v, h, p, 0) == BAD) {
            return BAD;
        }
        long greatest = 0;
        for (int f = 0; f < p; f++) {
            for (int g = 0; g < p; g++) {
                greatest = Math.max(greatest, slopes(k, v, h, p, f) - slopes(k, v, h, p, g));
            }
        }
        return greatest;
    }

    // ---- kept errors

    /** What there is ahead of each tick, as a text, and behind a bar its bit. */
    private List<String[]> ticks(int order, int v, int many) {
        List<String[]> all = new ArrayList<>();
        long s = 0;
        long t = 0;
        long gave = 0;
        for (int tick = 0; tick < many; tick++) {
            String ahead = order == 1 ? "" + s : s + " " + t + " " + gave;
            boolean bit;
            if (order == 1) {
                s = s + v;
                bit = s >= 0;
                s = bit ? s - ref() : s + ref();
            } else {
                s = s + v - gave;
                t = t + s - gave;
                bit = t >= 0;
                gave = bit ? ref() : -ref();
            }
            s = Math.min(1000000, Math.max(-1000000, s));
            t = Math.min(1000000, Math.max(-1000000, t));
            all.add(new String[] {ahead, bit ? "1" : "0"});
        }
        return all;
    }

    private static boolean isKept(int order, int v) {
        return order >= 1 && order <= 2 && Math.abs((long) v) <= 999;
    }

    long kept(int order, int v, int f, int n) {
        if (!isKept(order, v) || f < 0 || f > 400 || n < 1 || n > 30) {
            return BAD;
        }
        StringBuilder bits = new StringBuilder();
        for (String[] tick : ticks(order, v, f + n).subList(f, f + n)) {
            bits.insert(0, tick[1]);
        }
        return Integer.parseInt(bits.toString(), 2);
    }

    private static long onesOf(List<String[]> ticks) {
        return ticks.stream().filter(tick -> tick[1].equals("1")).count();
    }

    long ones(int order, int v, int k) {
        return !isKept(order, v) || k < 1 || k > 400 ? BAD : onesOf(ticks(order, v, k));
    }

    long round(int order, int v, int what) {
        if (!isKept(order, v) || what < 0 || what > 2) {
            return BAD;
        }
        List<String[]> ticks = ticks(order, v, 401);
        for (int now = 0; now <= 400; now++) {
            for (int before = 0; before < now; before++) {
                if (ticks.get(before)[0].equals(ticks.get(now)[0])) {
                    return what == 0 ? before : what == 1 ? now - before
                        : onesOf(ticks.subList(before, now));
                }
            }
        }
        return NONE;
    }

    // ---- what was measured

    long measure(int code, int volt) {
        if (!isCode(code) || !isVolt(volt)) {
            return BAD;
        }
        if (!measured.containsKey(code) && measured.size() == 12) {
            return FULL;
        }
        measured.put(code, volt);
        return measured.size();
    }

    private long trouble;

    /** Offset and weights; null, if there is trouble. */
    private Part[] reckoned() {
        int unknowns = 1 + parts();
        List<Part[]> rows = new ArrayList<>();
        for (int code : measured.keySet()) {
            Part[] row = new Part[unknowns + 1];
            Arrays.fill(row, Part.of(0));
            row[0] = Part.of(1);
            for (int part : taken(code)) {
                row[1 + part] = Part.of(1);
            }
            row[unknowns] = Part.of(measured.get(code));
            rows.add(row);
        }
        Part[][] solved = new Part[unknowns][];
        for (int column = 0; column < unknowns; column++) {
            for (Part[] row : rows) {
                if (!row[column].isZero()) {
                    solved[column] = row;
                    break;
                }
            }
            if (solved[column] != null) {
                rows.remove(solved[column]);
                for (Part[] row : rows) {
                    takeOff(row, solved[column], column);
                }
            }
        }
        for (Part[] row : rows) {
            if (!row[unknowns].isZero()) {
                trouble = STATE;
                return null;
            }
        }
        if (Arrays.asList(solved).contains(null)) {
            trouble = NONE;
            return null;
        }
        Part[] values = new Part[unknowns];
        for (int i = unknowns - 1; i >= 0; i--) {
            Part rest = solved[i][unknowns];
            for (int j = i + 1; j < unknowns; j++) {
                rest = rest.less(solved[i][j].times(values[j]));
            }
            values[i] = rest.by(solved[i][i]);
        }
        return values;
    }

    private static void takeOff(Part[] row, Part[] other, int column) {
        Part factor = row[column].by(other[column]);
        for (int i = 0; i < row.length; i++) {
            row[i] = row[i].less(factor.times(other[i]));
        }
    }

    long reckon(int what) {
        int unknown = what == 0 || what == 1 ? 0 : what >= 30 ? what - 29 : what - 9;
        if (what < 0 || what > 1 && what < 10 || unknown > parts() || what < 30 && what - 10 >= parts()) {
            return FAR;
        }
        Part[] values = reckoned();
        return values == null ? FAR + trouble : values[unknown].side(what == 0 || what >= 10 && what < 30 ? 0 : 1);
    }

    long adopt() {
        Part[] values = reckoned();
        if (values == null) {
            return trouble;
        }
        long[] becomes = new long[values.length];
        for (int i = 0; i < values.length; i++) {
            becomes[i] = values[i].side(0) - (i == 0 ? 0 : nominal(i - 1));
            boolean belowNothing = i > 0 && values[i].side(0) < 0;
            if (values[i].side(1) != 1 || belowNothing || Math.abs(becomes[i]) > 999) {
                return FULL;
            }
        }
        int others = 0;
        for (int i = 0; i < values.length; i++) {
            others += becomes[i] == (i == 0 ? offset() : miss(i - 1)) ? 0 : 1;
            rules.put(i == 0 ? "offset" : "miss" + (i - 1), (int) becomes[i]);
        }
        return others;
    }

    long apart(int what) {
        if (what < 0 || what > 2) {
            return BAD;
        }
        long sum = 0;
        long greatest = 0;
        for (int code : measured.keySet()) {
            long far = Math.abs(measured.get(code) - outOf(code));
            sum += far;
            greatest = Math.max(greatest, far);
        }
        if (what == 2) {
            for (int code : measured.keySet()) {
                if (Math.abs(measured.get(code) - outOf(code)) == greatest) {
                    return code;
                }
            }
            return NONE;
        }
        return what == 0 ? sum : greatest;
    }

    // ---- sheets: here the machine itself finds the faults

    long sheet(int k, int lane, int n) {
        if (k < 0 || k > 3 || lane < 0 || lane > 2 || n > 64) {
            return BAD;
        }
        try {
            sheets[k] = lane == 0 ? new byte[n] : lane == 1 ? new short[n] : new int[n];
        } catch (NegativeArraySizeException found) {
            return -14;
        }
        return 1;
    }

    long lay(int k, int i, int v) {
        if (k < 0 || k > 3) {
            return BAD;
        }
        try {
            if (sheets[k] instanceof byte[] row) {
                row[i] = (byte) v;
            } else if (sheets[k] instanceof short[] row) {
                row[i] = (short) v;
            } else {
                ((int[]) sheets[k])[i] = v;
            }
        } catch (NullPointerException found) {
            return -11;
        } catch (ArrayIndexOutOfBoundsException found) {
            return -12;
        }
        return 1;
    }

    private int cell(int k, int lane, int i) {
        return lane == 0 ? ((byte[]) sheets[k])[i] : lane == 1 ? ((short[]) sheets[k])[i] : ((int[]) sheets[k])[i];
    }

    long wave(int k, int lane, int f, int n, int what) {
        if (k < 0 || k > 3 || lane < 0 || lane > 2 || n < 0 || n > 64 || what < 0 || what > 2) {
            return BAD;
        }
        List<Integer> came = new ArrayList<>();
        try {
            sheets[k].getClass();
            Object same = lane == 0 ? (byte[]) sheets[k] : lane == 1 ? (short[]) sheets[k] : (int[]) sheets[k];
            for (int i = 0; i < n; i++) {
                int volt = cell(k, lane, f + i);
                if (!isVolt(volt)) {
                    return -20 - i;
                }
                came.add(weighed(volt, -4, outs()));
            }
        } catch (NullPointerException found) {
            return -11;
        } catch (ArrayIndexOutOfBoundsException found) {
            return -12;
        } catch (ClassCastException found) {
            return -13;
        }
        return waveAnswer(came, what);
    }

    private long waveAnswer(List<Integer> came, int what) {
        if (what == 0) {
            return new HashSet<>(came).size();
        }
        if (what == 1) {
            long best = NONE;
            long often = 0;
            for (int code = 0; code < codes(); code++) {
                int it = code;
                long times = came.stream().filter(c -> c == it).count();
                if (times > often) {
                    often = times;
                    best = code;
                }
            }
            return best;
        }
        int falls = 0;
        for (int i = 1; i < came.size(); i++) {
            falls += came.get(i) < came.get(i - 1) ? 1 : 0;
        }
        return falls;
    }

    long count(int what) {
        switch (what) {
            case 0: return codes();
            case 1: return parts();
            case 2: return measured.size();
            case 3: return Arrays.stream(stuck).filter(s -> s != NONE).count();
            case 4: return tape.length();
            case 5: return sheets[0] == null ? NONE : java.lang.reflect.Array.getLength(sheets[0]);
            default: return BAD;
        }
    }
}
