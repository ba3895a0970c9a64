/** Promises 7 to 13: out, lsb, wide, bent, worst, back, nearest. */
public final class StepsTest {
    private static final Check check = new Check();
    private static final long BAD_LONG = -10000000000L;
    private static final long STATE_LONG = -10000000002L;

    public static void main(String[] args) {
        outs();
        outsWithTop();
        evenness();
        noScale();
        leastScale();
        stepsBack();
        nearestCode();
        check.finish("StepsTest");
    }

    private static void outs() {
        VoltNumbers x = check.told("bits 3; unit 5; miss 0 -2; miss 1 4; miss 2 -21; offset 7;");
        int[] due = {7, 10, 21, 24, 7, 10, 21, 24};
        for (int code = 0; code < due.length; code++) {
            check.due("out(" + code + ")", x.out(code), due[code]);
        }
        check.due("out(8)", x.out(8), -100000);
        check.due("out(-1)", x.out(-1), -100000);
        check.due("greatest OUT", check.told("bits 8; unit 99; offset -999;").out(255), 24246);
    }

    private static void outsWithTop() {
        VoltNumbers x = check.told("bits 3; top; unit 10; miss 0 1; miss 1 -3; miss 2 -99; miss 3 4; offset -5;");
        int[] due = {-5, 6, 12, 23, 12, 23, 36, 47};
        for (int code = 0; code < due.length; code++) {
            check.due("top out(" + code + ")", x.out(code), due[code]);
        }
    }

    private static void fraction(String call, long numerator, long denominator, long n, long d) {
        check.due(call + " numerator", numerator, n);
        check.due(call + " denominator", denominator, d);
    }

    private static void evenness() {
        // OUT: 0, 6, 9, 15: LSB 5.
        VoltNumbers x = check.told("bits 2; unit 5; miss 0 1; miss 1 -1;");
        fraction("lsb", x.lsb(0), x.lsb(1), 5, 1);
        fraction("wide(0)", x.wide(0, 0), x.wide(0, 1), 1, 5);
        fraction("wide(1)", x.wide(1, 0), x.wide(1, 1), -2, 5);
        fraction("wide(2)", x.wide(2, 0), x.wide(2, 1), 1, 5);
        fraction("bent(0)", x.bent(0, 0), x.bent(0, 1), 0, 1);
        fraction("bent(1)", x.bent(1, 0), x.bent(1, 1), 1, 5);
        fraction("bent(2)", x.bent(2, 0), x.bent(2, 1), -1, 5);
        fraction("bent(3)", x.bent(3, 0), x.bent(3, 1), 0, 1);
        check.due("worst wide", x.worst(0, 0), 1);
        fraction("worst wide", x.worst(0, 1), x.worst(0, 2), 2, 5);
        check.due("worst bent, the first of two", x.worst(1, 0), 1);
        fraction("worst bent", x.worst(1, 1), x.worst(1, 2), 1, 5);

        // An offset changes nothing; OUT of the greatest 16 above: LSB 16/3.
        VoltNumbers y = check.told("bits 2; unit 5; miss 0 1; offset -50;");
        fraction("lsb", y.lsb(0), y.lsb(1), 16, 3);
        fraction("wide(0)", y.wide(0, 0), y.wide(0, 1), 1, 8);
        fraction("bent(2)", y.bent(2, 0), y.bent(2, 1), -1, 8);

        int[] badCodes = {-1, 3, 4, Integer.MAX_VALUE, Integer.MIN_VALUE};
        for (int code : badCodes) {
            check.due("wide(" + code + ", 0)", x.wide(code, 0), BAD_LONG);
        }
        check.due("bent(-1, 0)", x.bent(-1, 0), BAD_LONG);
        check.due("bent(4, 0)", x.bent(4, 0), BAD_LONG);
        check.due("wide(0, 2)", x.wide(0, 2), BAD_LONG);
        check.due("wide(0, -1)", x.wide(0, -1), BAD_LONG);
        check.due("bent(0, 2)", x.bent(0, 2), BAD_LONG);
        check.due("lsb(2)", x.lsb(2), -1000000);
        check.due("lsb(-1)", x.lsb(-1), -1000000);
        check.due("worst(2, 0)", x.worst(2, 0), -1);
        check.due("worst(-1, 0)", x.worst(-1, 0), -1);
        check.due("worst(0, 3)", x.worst(0, 3), -1);
        check.due("worst(0, -1)", x.worst(0, -1), -1);
    }

    private static void noScale() {
        VoltNumbers x = check.told("bits 2; miss 0 -16; miss 1 -40; offset 9;");
        fraction("lsb", x.lsb(0), x.lsb(1), 0, 1);
        check.due("wide", x.wide(0, 0), STATE_LONG);
        check.due("bent", x.bent(3, 1), STATE_LONG);
        check.due("worst", x.worst(1, 2), -2);
        check.due("BAD comes first: wide", x.wide(3, 0), BAD_LONG);
        check.due("BAD comes first: bent", x.bent(0, 2), BAD_LONG);
        check.due("BAD comes first: worst", x.worst(0, 3), -1);
    }

    /** All of the scale is one volt: the least for which WIDE and BENT can be told. */
    private static void leastScale() {
        VoltNumbers x = check.told("bits 2; unit 1; miss 1 - 2;");
        fraction("lsb", x.lsb(0), x.lsb(1), 1, 3);
        fraction("wide(0)", x.wide(0, 0), x.wide(0, 1), 2, 1);
        fraction("wide(1)", x.wide(1, 0), x.wide(1, 1), -4, 1);
        fraction("bent(2)", x.bent(2, 0), x.bent(2, 1), -2, 1);
        check.due("worst wide", x.worst(0, 0), 1);
        fraction("worst wide", x.worst(0, 1), x.worst(0, 2), 4, 1);
        check.due("worst bent", x.worst(1, 0), 1);
        fraction("worst bent", x.worst(1, 1), x.worst(1, 2), 2, 1);
    }

    private static void stepsBack() {
        // OUT: 0, 5, 10, 15, 3, 8, 13, 18.
        VoltNumbers x = check.told("bits 3; unit 5; miss 2 -17;");
        check.due("steps back", x.back(0), 1);
        check.due("steps of 0", x.back(1), 0);
        check.due("the first back", x.back(2), 3);
        // OUT: 0, 5, 5, 10, 0, 5, 5, 10.
        VoltNumbers y = check.told("bits 3; unit 5; miss 1 -5; miss 2 -20;");
        check.due("steps back", y.back(0), 1);
        check.due("steps of 0", y.back(1), 2);
        check.due("the first back", y.back(2), 3);
        // No step beyond the greatest CODE is counted, whatever an earlier text told of there.
        VoltNumbers z = check.told("bits 3; unit 1; miss 0 -1; miss 1 -2; miss 2 -4;");
        check.due("seven steps of 0", z.back(1), 7);
        Check.tell(z, "bits 2; unit 1; miss 0 -1; miss 1 -2;");
        check.due("three steps of 0", z.back(1), 3);
        check.due("none back", new VoltNumbers().back(2), -4);
        check.due("back(3)", x.back(3), -1);
        check.due("back(-1)", x.back(-1), -1);
    }

    private static void nearestCode() {
        // OUT: 0, 5, 10, 15, 3, 8, 13, 18.
        VoltNumbers x = check.told("bits 3; unit 5; miss 2 -17;");
        int[] volts = {-99999, 0, 1, 2, 4, 3, 9, 11, 14, 16, 17, 99999};
        int[] codes = {0, 0, 0, 4, 1, 4, 2, 2, 3, 3, 7, 7};
        for (int i = 0; i < volts.length; i++) {
            check.due("nearest(" + volts[i] + ")", x.nearest(volts[i]), codes[i]);
        }
        check.due("nearest(100000)", x.nearest(100000), -1);
        check.due("nearest(-100000)", x.nearest(-100000), -1);
        check.due("nearest(least int)", x.nearest(Integer.MIN_VALUE), -1);
    }
}
