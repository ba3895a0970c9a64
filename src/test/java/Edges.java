import java.util.HashMap;
import java.util.List;
import java.util.Map;
import java.util.function.Supplier;

/** What is taken just within a bound, and refused just outside of it, changing nothing. */
final class Edges {
    static final Supplier<VoltNumbers> FRESH = VoltNumbers::new;
    static final Supplier<VoltNumbers> USED = Edges::used;
    private static final Supplier<VoltNumbers> EMPTY_TAPE = Edges::usedWithEmptyTape;

    private final Check check;
    private final Map<Supplier<VoltNumbers>, List<String>> known = new HashMap<>();

    Edges(Check check) {
        this.check = check;
    }

    /** An object in which everything is otherwise than in a new one. */
    private static VoltNumbers used() {
        VoltNumbers x = new VoltNumbers();
        Check.tell(x, "bits 3; top; unit 7; miss 0 -2; miss 2 5; miss 3 -1; offset -4; lean 2;"
            + "string 1 -3; string 6 30; string 13 8; ref 90;");
        int[][] measured = {{0, -3}, {1, 3}, {2, 12}, {4, 31}, {7, 52}};
        for (int[] row : measured) {
            x.measure(row[0], row[1]);
        }
        x.stick(3, 0);
        x.stick(5, 1);
        x.stick(15, 1);
        for (int lane = 0; lane <= 2; lane++) {
            x.sheet(lane, lane, lane == 2 ? 64 : 5);
            for (int cell = 0; cell < 5; cell++) {
                x.lay(lane, cell, 9 * cell + lane);
            }
        }
        x.lay(2, 3, 100000);
        x.lay(2, 63, 40);
        Check.tell(x, "bits 9;");
        Check.put(x, "unit 9; top; miss 3 12; string 2 8; lean - 7;");
        return x;
    }

    /** A text is refused on a used object: only the tape, now empty, and the fault are otherwise. */
    void refusedText(String text, int fault, int place) {
        VoltNumbers x = usedWithEmptyTape();
        check.due("text '" + text + "'", Check.tell(x, text), -10 - place);
        check.due("fault of '" + text + "'", x.fault(), fault);
        List<String> rows = Witness.of(x);
        List<String> due = known.computeIfAbsent(EMPTY_TAPE, it -> Witness.of(it.get()));
        // The first row is that of fault().
        same("behind '" + text + "'", rows.subList(1, rows.size()), due.subList(1, due.size()));
    }

    private static VoltNumbers usedWithEmptyTape() {
        VoltNumbers x = used();
        x.end(0);
        return x;
    }

    /** Makes objects that have been told a text, which must be taken. */
    Supplier<VoltNumbers> telling(String text) {
        return () -> check.told(text);
    }

    /** The call answers so, and what all other calls answer afterwards is as it was. */
    void refused(Supplier<VoltNumbers> maker, long want, Call call) {
        VoltNumbers x = maker.get();
        check.due(call.toString(), call.on(x), want);
        same("behind " + call, Witness.of(x), known.computeIfAbsent(maker, it -> Witness.of(it.get())));
    }

    void refused(Supplier<VoltNumbers> maker, long want, String method, long... args) {
        refused(maker, want, new Call(method, args));
    }

    private void same(String when, List<String> rows, List<String> due) {
        for (int i = 0; i < due.size(); i++) {
            check.same(when, rows.get(i), due.get(i));
        }
    }

    /**
     * One number of a call is taken from low to high, and refused just outside
     * of these and far off; an answer that is taken is never the refusal.
     */
    void bounds(long bad, int place, long low, long high, String method, long... args) {
        Call call = new Call(method, args);
        for (Supplier<VoltNumbers> maker : List.of(FRESH, USED)) {
            check.unlike(call.with(place, low).toString(), call.with(place, low).on(maker.get()), bad);
            check.unlike(call.with(place, high).toString(), call.with(place, high).on(maker.get()), bad);
            long[] outside = {low - 1, high + 1, Integer.MIN_VALUE, Integer.MAX_VALUE};
            for (long value : outside) {
                refused(maker, bad, call.with(place, value));
            }
        }
    }

    /** A number that must be one of VOLTS. */
    void volts(long bad, int place, String method, long... args) {
        bounds(bad, place, -99999, 99999, method, args);
    }
}
