/** Promises 21 and 22: slopes, hum. */
public final class SlopesTest {
    private static final Check check = new Check();

    public static void main(String[] args) {
        withoutHum();
        withHum();
        wrongNumbers();
        check.finish("SlopesTest");
    }

    private static void withoutHum() {
        VoltNumbers x = new VoltNumbers();
        check.due("nothing to go down", x.slopes(400, 0, 0, 2, 0), 0);
        check.due("300 by 100", x.slopes(100, 3, 0, 2, 0), 3);
        check.due("301 by 100", x.slopes(7, 43, 0, 2, 0), 4);
        VoltNumbers y = check.told("ref 1;");
        check.due("999 ticks", y.slopes(1, 999, 0, 2, 0), 999);
        check.due("1000 ticks", y.slopes(10, 100, 0, 2, 0), 1000);
        check.due("no more than 1000", y.slopes(400, 999, 99, 40, 0), 1000);
    }

    private static void withHum() {
        VoltNumbers x = check.told("ref 1;");
        // A period of 4: + + - -.
        int[] ofFirst = {15, 15, 5, 5};
        for (int f = 0; f < 4; f++) {
            check.due("1 tick from " + f, x.slopes(1, 10, 5, 4, f), ofFirst[f]);
            check.due("4 ticks from " + f, x.slopes(4, 10, 5, 4, f), 40);
        }
        check.due("3 ticks from 0: + + -", x.slopes(3, 10, 5, 4, 0), 35);
        check.due("3 ticks from 1: + - -", x.slopes(3, 10, 5, 4, 1), 25);
        check.due("3 ticks from 2: - - +", x.slopes(3, 10, 5, 4, 2), 25);
        check.due("3 ticks from 3: - + +", x.slopes(3, 10, 5, 4, 3), 35);
        check.due("below 0", x.slopes(1, 0, 99, 2, 1), 0);
        check.due("hum of whole periods", x.hum(8, 10, 5, 4), 0);
        check.due("hum of 7 ticks", x.hum(7, 10, 5, 4), 10);
        check.due("hum of 2 ticks", x.hum(2, 10, 5, 4), 20);
        check.due("hum below 0 counts as 0", x.hum(2, 1, 5, 4), 12);
        check.due("hum above 1000 counts as 1000", x.hum(2, 500, 5, 4), 10);
    }

    private static void wrongNumbers() {
        VoltNumbers x = new VoltNumbers();
        int[][] bad = {
            {0, 0, 0, 2}, {401, 0, 0, 2}, {-1, 0, 0, 2}, {1, -1, 0, 2}, {1, 1000, 0, 2},
            {1, 0, -1, 2}, {1, 0, 100, 2}, {1, 0, 0, 0}, {1, 0, 0, 3}, {1, 0, 0, 39},
            {1, 0, 0, 41}, {1, 0, 0, 42}, {1, 0, 0, -2}, {1, 0, 0, Integer.MIN_VALUE},
        };
        for (int[] b : bad) {
            String of = b[0] + ", " + b[1] + ", " + b[2] + ", " + b[3];
            check.due("slopes(" + of + ", 0)", x.slopes(b[0], b[1], b[2], b[3], 0), -1);
            check.due("hum(" + of + ")", x.hum(b[0], b[1], b[2], b[3]), -1);
        }
        check.due("f -1", x.slopes(1, 0, 0, 2, -1), -1);
        check.due("f 2 of 2", x.slopes(1, 0, 0, 2, 2), -1);
        check.due("f 39 of 40", x.slopes(400, 999, 99, 40, 39), 1000);
    }
}
