/** Promises 23 to 25: kept, ones, round. */
public final class KeptTest {
    private static final Check check = new Check();

    public static void main(String[] args) {
        orderOne();
        orderTwo();
        cutSums();
        wrongNumbers();
        check.finish("KeptTest");
    }

    private static void orderOne() {
        VoltNumbers x = check.told("ref 4;");
        // s ahead of each tick with v 1: 0 -3 2 -1 -4 1 -2 3 | 0: bits 1 0 1 1 0 1 0 1.
        check.due("bits", x.kept(1, 1, 0, 8), 0b10101101);
        check.due("bits from 1", x.kept(1, 1, 1, 4), 0b0110);
        check.due("bits from 400", x.kept(1, 1, 400, 16), 0b1010110110101101);
        check.due("ones of 3", x.ones(1, 1, 3), 2);
        check.due("ones of 400", x.ones(1, 1, 400), 250);
        check.due("round begins", x.round(1, 1, 0), 0);
        check.due("round length", x.round(1, 1, 1), 8);
        check.due("round ones", x.round(1, 1, 2), 5);
        // v 5, ref 4: s grows by 1 for ever.
        check.due("no round", x.round(1, 5, 0), -4);
        check.due("no round, length", x.round(1, 5, 1), -4);
        check.due("no round, ones", x.round(1, 5, 2), -4);
        check.due("all ones", x.ones(1, 5, 400), 400);
        check.due("30 ones", x.kept(1, 5, 400, 30), (1 << 30) - 1);
        check.due("a round of 199", check.told("ref 199;").round(1, 1, 1), 199);
        check.due("a round of 400, just seen", check.told("ref 200;").round(1, 1, 1), 400);
        check.due("a round of 404, not seen", check.told("ref 202;").round(1, 1, 1), -4);
    }

    private static void orderTwo() {
        VoltNumbers x = check.told("ref 1;");
        // v 0: s, t: 0 0 -> 1; -1 -2 -> 0; 0 -1 -> 0; 1 1 -> 1; 0 0 -> 1.
        check.due("bits", x.kept(2, 0, 0, 6), 0b011001);
        check.due("round begins", x.round(2, 0, 0), 1);
        check.due("round length", x.round(2, 0, 1), 4);
        check.due("round ones", x.round(2, 0, 2), 2);
        check.due("ones of 1", x.ones(2, 0, 1), 1);
        check.due("ones of 5", x.ones(2, 0, 5), 3);
    }

    private static void cutSums() {
        VoltNumbers x = check.told("ref 500;");
        // Order 2, v 999: t is cut at 1000000, and comes down no sooner than s does.
        check.due("bits", x.kept(2, 999, 400, 30), (1 << 30) - 1);
        check.due("no round", x.round(2, 999, 1), -4);
        check.due("v -999", x.ones(2, -999, 400), 0);
    }

    private static void wrongNumbers() {
        VoltNumbers x = new VoltNumbers();
        int[][] bad = {{0, 0}, {3, 0}, {-1, 0}, {1, 1000}, {1, -1000}, {2, 1000}, {2, Integer.MIN_VALUE}};
        for (int[] b : bad) {
            String of = b[0] + ", " + b[1];
            check.due("kept(" + of + ", 0, 1)", x.kept(b[0], b[1], 0, 1), -1);
            check.due("ones(" + of + ", 1)", x.ones(b[0], b[1], 1), -1);
            check.due("round(" + of + ", 0)", x.round(b[0], b[1], 0), -1);
        }
        check.due("f -1", x.kept(1, 0, -1, 1), -1);
        check.due("f 401", x.kept(1, 0, 401, 1), -1);
        check.due("n 0", x.kept(1, 0, 0, 0), -1);
        check.due("n 31", x.kept(1, 0, 0, 31), -1);
        check.due("k 0", x.ones(1, 0, 0), -1);
        check.due("k 401", x.ones(1, 0, 401), -1);
        check.due("what -1", x.round(1, 0, -1), -1);
        check.due("what 3", x.round(1, 0, 3), -1);
    }
}
