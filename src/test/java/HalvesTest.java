/** Promises 14 to 16: halves, range, weak. */
public final class HalvesTest {
    private static final Check check = new Check();

    public static void main(String[] args) {
        even();
        leaning();
        goingBack();
        withTop();
        rangeBounds();
        check.finish("HalvesTest");
    }

    private static void even() {
        VoltNumbers x = new VoltNumbers();
        check.due("halves(100, NONE)", x.halves(100, -4), 6);
        check.due("wrong at 3", x.halves(100, 3), 8);
        check.due("wrong at 2", x.halves(100, 2), 3);
        check.due("wrong at 1", x.halves(100, 1), 5);
        check.due("wrong at 0", x.halves(100, 0), 7);
        check.due("at a step", x.halves(112, -4), 7);
        check.due("below all", x.halves(-99999, -4), 0);
        check.due("above all", x.halves(99999, -4), 15);
        check.due("weak(100)", x.weak(100), 15);
        int[] badBits = {-1, -2, -3, -5, 4, 8, Integer.MAX_VALUE, Integer.MIN_VALUE};
        for (int b : badBits) {
            check.due("halves(0, " + b + ")", x.halves(0, b), -1);
        }
        int[] badVolts = {100000, -100000, Integer.MAX_VALUE, Integer.MIN_VALUE};
        for (int v : badVolts) {
            check.due("halves(" + v + ", NONE)", x.halves(v, -4), -1);
            check.due("weak(" + v + ")", x.weak(v), -1);
        }
    }

    private static void leaning() {
        VoltNumbers x = check.told("bits 2; unit 10; lean -3; offset 1;");
        check.due("13 less 3 is below 11", x.halves(13, -4), 0);
        check.due("14 less 3 is 11", x.halves(14, -4), 1);
        // Volts -9 to 41; CODES begin at 14, 24, 34; nearest at 7, 17, 27 (6.., with ties down).
        check.due("codes that come", x.range(0), 4);
        check.due("not the nearest", x.range(3), 7 + 7 + 7);
        // With a lean of -30 the comparer never says yes to 3.
        VoltNumbers y = check.told("bits 2; unit 10; lean -30;");
        check.due("codes that come", y.range(0), 2);
        check.due("codes that never come", y.range(1), 2);
        check.due("the least of these", y.range(2), 2);
    }

    private static void goingBack() {
        // OUT: 0, 5, 10, 15, 3, 8, 13, 18: volts -5 to 23; from 3 on bit 2 stays.
        VoltNumbers x = check.told("bits 3; unit 5; miss 2 -17;");
        check.due("halves(11)", x.halves(11, -4), 5);
        check.due("wrong at 2", x.halves(11, 2), 2);
        check.due("codes that come", x.range(0), 5);
        check.due("codes that never come", x.range(1), 3);
        check.due("the least of these", x.range(2), 1);
        check.due("weak", x.weak(11), 7);
    }

    private static void withTop() {
        VoltNumbers x = check.told("bits 3; top; unit 10; miss 1 5;");
        // OUT: 0, 10, 25, 35, 45, 55, 65, 75.
        check.due("halves(44)", x.halves(44, -4), 3);
        check.due("halves(45)", x.halves(45, -4), 4);
        check.due("halves(25)", x.halves(25, -4), 2);
        check.due("wrong at 2", x.halves(44, 2), 4);
        check.due("wrong at 1", x.halves(44, 1), 1);
        check.due("there is no bit 3", x.halves(44, 3), -1);
        check.due("range(0)", x.range(0), 8);
        check.due("range(2)", x.range(2), -4);
    }

    private static void rangeBounds() {
        VoltNumbers x = new VoltNumbers();
        check.due("range(-1)", x.range(-1), -1);
        check.due("range(4)", x.range(4), -1);
        // 257 * 77 + 1 volts and the miss; OUT of an odd CODE is above that of the next one.
        VoltNumbers most = check.told("bits 8; unit 77; miss 0 210;");
        check.due("20000 volts: come", most.range(0), 129);
        check.due("20000 volts: never come", most.range(1), 127);
        check.due("20000 volts: the least of these", most.range(2), 1);
        check.due("20001 volts", check.told("bits 8; unit 77; miss 0 211;").range(0), -2);
        check.due("BAD ahead of STATE", check.told("bits 8; unit 99;").range(4), -1);
    }
}
