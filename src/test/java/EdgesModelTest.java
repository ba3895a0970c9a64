import java.util.ArrayList;
import java.util.List;

/** Every number about a bound, each with each, in several states: each answer beside that of the plain model. */
public final class EdgesModelTest {
    private static final Check check = new Check();
    private static final long MIN = Integer.MIN_VALUE;
    private static final long MAX = Integer.MAX_VALUE;
    private static final int CALLS_OF_ONE_OBJECT = 400;

    private static final long[] WHATS = {MIN, -5, -1, 0, 1, 2, 3, 4, 5, 6, MAX};
    private static final long[] CODES = {MIN, -1, 0, 1, 3, 4, 6, 7, 8, 15, 16, 255, 256, MAX};
    private static final long[] VOLTS = {MIN, -100000, -99999, -1, 0, 1, 37, 99999, 100000, MAX};
    private static final long[] SMALL_VOLTS = {MIN, -1000, -999, -1, 0, 1, 9, 999, 1000, MAX};
    private static final long[] ORDERS = {MIN, 0, 1, 2, 3, MAX};
    private static final long[] SIZES = {MIN, 0, 1, 2, 3, 4, 5, 32, MAX};
    private static final long[] SHEETS = {MIN, -1, 0, 1, 2, 3, 4, MAX};
    private static final long[] LANES = {MIN, -1, 0, 1, 2, 3, MAX};
    private static final long[] CELLS = {MIN, -1, 0, 1, 3, 4, 5, 62, 63, 64, MAX};
    private static final long[] MANY_CELLS = {MIN, -1, 0, 1, 5, 6, 63, 64, 65, MAX};

    /** The texts of the states; the last makes LSB 0. */
    private static final String[] TEXTS = {
        "",
        "bits 2; unit 1; miss 1 -2; lean -1; ref 1;",
        "bits 3; top; unit 7; miss 0 -2; miss 2 5; miss 3 -1; offset -4; lean 2; string 1 -3; string 6 30; ref 90;",
        "unit 99; miss 3 -792; miss 2 999; offset -999; lean 999; ref 999; string 0 -9; string 15 89;",
        "bits 2; miss 0 -16; miss 1 -999;",
    };

    private final String text;
    private final List<Call> calls = new ArrayList<>();

    private EdgesModelTest(String text) {
        this.text = text;
    }

    public static void main(String[] args) {
        for (String text : TEXTS) {
            new EdgesModelTest(text).go();
        }
        check.finish("EdgesModelTest");
    }

    private void go() {
        addAskingCalls();
        askAll();
        calls.clear();
        addChangingCalls();
        changeAll();
    }

    /** The same calls for the class and the model: a text, then some of everything that can be held. */
    private Object prepared(Object x) {
        tell(x, text);
        for (int code = 0; code <= 3; code++) {
            new Call("measure", code, 20 * code - 3).on(x);
        }
        new Call("stick", 1, 0).on(x);
        new Call("stick", 14, 1).on(x);
        for (int lane = 0; lane <= 2; lane++) {
            new Call("sheet", lane, lane, lane == 1 ? 64 : 5).on(x);
            for (int cell = 0; cell < 5; cell++) {
                new Call("lay", lane, cell, 40 - 11 * cell).on(x);
            }
        }
        new Call("lay", 2, 3, 100000).on(x);
        put(x, "unit 9; top; miss 3 12; string 2 8; lean - 7;");
        return x;
    }

    private static void tell(Object x, String text) {
        put(x, text);
        new Call("text").on(x);
    }

    private static void put(Object x, String text) {
        for (int from = 0; from < text.length(); from += 8) {
            long v = 0;
            for (int i = from; i < from + 8; i++) {
                v = v << 8 | (i < text.length() ? text.charAt(i) : 32);
            }
            new Call("feed", v).on(x);
        }
        new Call("end", text.length()).on(x);
    }

    /** A call with each number of a row in each of its places. */
    private void add(String method, long[]... rows) {
        addFrom(method, new long[rows.length], 0, rows);
    }

    private void addFrom(String method, long[] args, int place, long[][] rows) {
        if (place == rows.length) {
            calls.add(new Call(method, args));
            return;
        }
        for (long value : rows[place]) {
            args[place] = value;
            addFrom(method, args, place + 1, rows);
        }
    }

    private void addAskingCalls() {
        add("fault");
        add("rule", new long[] {MIN, -1, 0, 1, 2, 3, 4, 5, 6, 9, 10, 11, 12, 13, 14, 18, 19, 29, 30, 31, 36, 45, 46, MAX});
        add("out", CODES);
        add("lsb", WHATS);
        add("wide", CODES, WHATS);
        add("bent", CODES, WHATS);
        add("worst", WHATS, WHATS);
        add("back", WHATS);
        add("nearest", VOLTS);
        add("halves", VOLTS, new long[] {MIN, -5, -4, -3, -2, -1, 0, 1, 2, 3, 4, 8, MAX});
        add("range", WHATS);
        add("weak", VOLTS);
        add("string", SIZES, VOLTS, WHATS);
        add("node", SIZES, new long[] {MIN, -1, 0, 1, 3, 4, 7, 8, 15, 16, MAX});
        add("strings", SIZES, WHATS);
        long[] ticks = {MIN, 0, 1, 39, 400, 401, MAX};
        long[] slope = {MIN, -1, 0, 1, 999, 1000, MAX};
        long[] hum = {MIN, -1, 0, 1, 99, 100, MAX};
        long[] period = {MIN, 0, 1, 2, 3, 38, 39, 40, 41, 42, MAX};
        add("slopes", ticks, slope, hum, period, new long[] {MIN, -1, 0, 1, 2, 19, 20, 39, 40, MAX});
        add("hum", ticks, slope, hum, new long[] {MIN, 0, 1, 2, 3, 4, 40, 41, 42, MAX});
        add("kept", ORDERS, SMALL_VOLTS, new long[] {MIN, -1, 0, 1, 400, 401, MAX}, new long[] {MIN, 0, 1, 30, 31, MAX});
        add("ones", ORDERS, SMALL_VOLTS, new long[] {MIN, 0, 1, 400, 401, MAX});
        add("round", ORDERS, SMALL_VOLTS, WHATS);
        add("reckon", new long[] {MIN, -1, 0, 1, 2, 9, 10, 11, 12, 13, 14, 18, 19, 29, 30, 31, 32, 33, 34, 38, 39, MAX});
        add("apart", WHATS);
        add("wave", SHEETS, LANES, CELLS, MANY_CELLS, new long[] {MIN, -1, 0, 1, 2, 3, MAX});
        add("count", WHATS);
    }

    private void addChangingCalls() {
        add("feed", new long[] {Long.MIN_VALUE, 0, -1, 0x3b3b3b3b20202020L, Long.MAX_VALUE});
        add("end", new long[] {MIN, -1, 0, 1, 7, 44, 45, 46, 200, 201, MAX});
        add("text");
        add("measure", CODES, VOLTS);
        add("adopt");
        add("stick", new long[] {MIN, -1, 0, 1, 14, 15, 16, MAX}, new long[] {MIN, -5, -4, -3, -1, 0, 1, 2, MAX});
        add("sheet", SHEETS, LANES, MANY_CELLS);
        add("lay", SHEETS, CELLS, new long[] {MIN, -129, -128, 127, 128, 255, 32768, 65535, 100000, MAX});
    }

    private void askAll() {
        Object x = null;
        Object model = null;
        for (int i = 0; i < calls.size(); i++) {
            if (i % CALLS_OF_ONE_OBJECT == 0) {
                x = prepared(new VoltNumbers());
                model = prepared(new PlainModel());
            }
            Call call = calls.get(i);
            check.due("'" + text + "' " + call, call.on(x), call.on(model));
        }
    }

    /**
     * Each call on objects of their own, and all that can be asked behind it.
     * The model's rows are asked once for all calls that it refuses.
     */
    private void changeAll() {
        List<String> untouched = Witness.of(prepared(new PlainModel()));
        for (Call call : calls) {
            Object x = prepared(new VoltNumbers());
            Object model = prepared(new PlainModel());
            long due = call.on(model);
            check.due("'" + text + "' " + call, call.on(x), due);
            List<String> rows = Witness.of(x);
            List<String> dueRows = due == -1 || due <= -11 ? untouched : Witness.of(model);
            for (int i = 0; i < dueRows.size(); i++) {
                check.same("'" + text + "' behind " + call, rows.get(i), dueRows.get(i));
            }
        }
    }
}
