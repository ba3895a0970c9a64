/** Promises 17 to 20: stick, string, node, strings. */
public final class StringTest {
    private static final Check check = new Check();

    public static void main(String[] args) {
        sticking();
        words();
        nodes();
        sums();
        wrongNumbers();
        check.finish("StringTest");
    }

    private static void sticking() {
        VoltNumbers x = new VoltNumbers();
        check.due("stick(1, 1)", x.stick(1, 1), -4);
        check.due("stick(1, 0)", x.stick(1, 0), 1);
        check.due("stick(15, 0)", x.stick(15, 0), -4);
        check.due("stick(15, -4)", x.stick(15, -4), 0);
        check.due("stick(15, -4) again", x.stick(15, -4), -4);
        check.due("stuck", x.count(3), 1);
        int[] bad = {0, 16, -1, Integer.MIN_VALUE};
        for (int j : bad) {
            check.due("stick(" + j + ", 0)", x.stick(j, 0), -1);
        }
        int[] badAt = {2, -1, -2, -3, -5};
        for (int at : badAt) {
            check.due("stick(1, " + at + ")", x.stick(1, at), -1);
        }
        check.due("it stays", x.stick(1, -4), 0);
    }

    private static void words() {
        VoltNumbers x = new VoltNumbers();
        check.due("at a node", x.string(2, 25, 0), 1);
        check.due("below it", x.string(2, 24, 0), 0);
        check.due("below 0", x.string(4, -99999, 0), 0);
        check.due("far above", x.string(4, 99999, 0), 32767);
        x.stick(2, 0);
        x.stick(6, 1);
        x.stick(7, 1);
        // Comparers 1, 3, 4 and 6, 7 say 1.
        check.due("words", x.string(3, 60, 0), 1 + 4 + 8 + 32 + 64);
        check.due("count", x.string(3, 60, 1), 5);
        check.due("edge", x.string(3, 60, 2), 1);
        check.due("bubbles", x.string(3, 60, 3), 2);
        check.due("those beyond the string say nothing", x.string(2, 0, 0), 0);
        x.stick(1, 0);
        check.due("edge from the first on", x.string(3, 60, 2), 0);
        check.due("edge when all say 1", new VoltNumbers().string(2, 100, 2), 3);
    }

    private static void nodes() {
        VoltNumbers x = check.told("string 0 -9; string 1 1; string 3 30; ref 50;");
        // Resistors 1, 11, 10, 40 of 62.
        check.due("node(2, 1)", x.node(2, 1), 1);
        check.due("node(2, 2)", x.node(2, 2), 10);
        check.due("node(2, 3)", x.node(2, 3), 18);
        check.due("node(3, 7) of 102", x.node(3, 7), 46);
        x.stick(2, 0);
        check.due("stuck at 0", x.node(2, 2), 10);
        x.stick(2, 1);
        check.due("stuck at 1", x.node(2, 2), 10);
        check.due("string at 17", x.string(2, 17, 0), 3);
        check.due("string at 18", x.string(2, 18, 0), 7);
    }

    private static void sums() {
        VoltNumbers x = check.told("ref 8;");
        check.due("all alike: no gap", x.strings(2, 0), 0);
        check.due("all alike: all even", x.strings(2, 1), 0);
        x.stick(1, 0);
        // From 4 on comparer 2 says 1, comparer 1 does not; from 2 on one is missing.
        check.due("with a gap", x.strings(2, 0), 5);
        check.due("off even", x.strings(2, 1), 7);
        x.stick(1, 1);
        check.due("no gap", x.strings(2, 0), 0);
        check.due("off even below 2", x.strings(2, 1), 2);
        x.stick(1, -4);
        x.stick(4, 1);
        check.due("beyond a string of 2 bits", x.strings(2, 0), 0);
        check.due("in one of 3 bits, below 3", x.strings(3, 0), 3);
        check.due("off even below 4", x.strings(3, 1), 4);
        // Nodes at 2.1 and on: 3 of 9 volts are one code too low.
        check.due("a wide resistor", check.told("ref 8; string 0 1;").strings(2, 1), 3);
        check.due("ref 1", check.told("ref 1;").strings(4, 1), 0);
    }

    private static void wrongNumbers() {
        VoltNumbers x = new VoltNumbers();
        int[] badSizes = {1, 5, 0, -1, 32, Integer.MAX_VALUE, Integer.MIN_VALUE};
        for (int m : badSizes) {
            check.due("string(" + m + ", 0, 0)", x.string(m, 0, 0), -1);
            check.due("node(" + m + ", 1)", x.node(m, 1), -1);
            check.due("strings(" + m + ", 0)", x.strings(m, 0), -1);
        }
        check.due("string(2, 100000, 0)", x.string(2, 100000, 0), -1);
        check.due("string(2, -100000, 0)", x.string(2, -100000, 0), -1);
        check.due("string(2, 0, 4)", x.string(2, 0, 4), -1);
        check.due("string(2, 0, -1)", x.string(2, 0, -1), -1);
        check.due("node(2, 0)", x.node(2, 0), -1);
        check.due("node(2, 4)", x.node(2, 4), -1);
        check.due("node(3, 8)", x.node(3, 8), -1);
        check.due("strings(2, 2)", x.strings(2, 2), -1);
        check.due("strings(2, -1)", x.strings(2, -1), -1);
    }
}
