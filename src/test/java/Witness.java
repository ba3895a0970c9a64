import java.util.ArrayList;
import java.util.List;

/**
 * All that an object (a VoltNumbers or a PlainModel) answers, row by row: two
 * that differ in anything that a call can show have unlike rows. The object is
 * used up by it.
 */
final class Witness {
    // Those who make the object have the rest of its 512 calls.
    private static final int MOST_CALLS = 400;

    private final Object x;
    private final List<String> rows = new ArrayList<>();

    private Witness(Object x) {
        this.x = x;
    }

    static List<String> of(Object x) {
        Witness it = new Witness(x);
        it.askRules();
        it.askSteps();
        it.askStrings();
        it.askSums();
        it.askSheets();
        it.askMeasured();
        it.askStuck();
        it.askTape();
        it.askLanes();
        if (it.rows.size() > MOST_CALLS) {
            throw new IllegalStateException(it.rows.size() + " calls are too many");
        }
        return it.rows;
    }

    private void ask(String method, long... args) {
        Call call = new Call(method, args);
        rows.add(call + " -> " + call.on(x));
    }

    private void askRules() {
        ask("fault");
        for (int what = 0; what <= 5; what++) {
            ask("count", what);
            ask("rule", what);
        }
        for (int part = 0; part <= 8; part++) {
            ask("rule", 10 + part);
        }
        for (int resistor = 0; resistor <= 15; resistor++) {
            ask("rule", 30 + resistor);
        }
    }

    private void askSteps() {
        for (int code = 0; code < 16; code++) {
            ask("out", code);
        }
        ask("out", 255);
        for (int what = 0; what <= 2; what++) {
            ask("worst", 0, what);
            ask("worst", 1, what);
            ask("back", what);
        }
        for (int what = 0; what <= 3; what++) {
            ask("range", what);
        }
        for (int volt = -20; volt <= 220; volt += 40) {
            ask("nearest", volt);
            ask("halves", volt, -4);
        }
        ask("halves", 30, 1);
        ask("weak", 30);
        ask("lsb", 0);
        ask("wide", 1, 0);
        ask("bent", 2, 1);
    }

    private void askStrings() {
        for (int m = 2; m <= 4; m++) {
            ask("string", m, 37, 0);
            ask("node", m, 2);
            ask("strings", m, 0);
            ask("strings", m, 1);
        }
    }

    private void askSums() {
        ask("slopes", 25, 12, 9, 10, 3);
        ask("hum", 25, 12, 9, 10);
        for (int order = 1; order <= 2; order++) {
            ask("kept", order, 7, 3, 30);
            ask("ones", order, 7, 77);
            for (int what = 0; what <= 2; what++) {
                ask("round", order, 9, what);
            }
        }
    }

    private void askSheets() {
        for (int k = 0; k <= 3; k++) {
            for (int lane = 0; lane <= 2; lane++) {
                for (int cell = 0; cell < 6; cell++) {
                    ask("wave", k, lane, cell, 1, 1);
                }
                ask("wave", k, lane, 63, 1, 1);
            }
        }
    }

    /** What is reckoned, what is adopted, and last which codes were measured already. */
    private void askMeasured() {
        for (int what = 0; what <= 2; what++) {
            ask("apart", what);
        }
        ask("reckon", 0);
        ask("reckon", 1);
        for (int part = 0; part <= 4; part++) {
            ask("reckon", 10 + part);
            ask("reckon", 30 + part);
        }
        ask("adopt");
        ask("rule", 2);
        for (int part = 0; part <= 4; part++) {
            ask("rule", 10 + part);
        }
        for (int code = 0; code < 16; code++) {
            ask("measure", code, 5);
        }
    }

    private void askStuck() {
        for (int j = 1; j <= 15; j++) {
            ask("stick", j, -4);
        }
    }

    /** The tape told: its bytes are seen by what then holds. */
    private void askTape() {
        ask("text");
        ask("fault");
        for (int what = 0; what <= 5; what++) {
            ask("rule", what);
        }
        for (int part = 0; part <= 8; part++) {
            ask("rule", 10 + part);
        }
        for (int resistor = 0; resistor <= 15; resistor++) {
            ask("rule", 30 + resistor);
        }
    }

    /** Which lane a sheet has: 200 stays 200 but in one of bytes. */
    private void askLanes() {
        for (int k = 0; k <= 3; k++) {
            ask("lay", k, 0, 200);
            ask("wave", k, 0, 0, 1, 1);
            ask("wave", k, 1, 0, 1, 1);
        }
    }
}
