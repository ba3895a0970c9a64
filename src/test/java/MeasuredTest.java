/** Promises 26 to 29: measure, reckon, adopt, apart. */
public final class MeasuredTest {
    private static final Check check = new Check();
    private static final long BAD_LONG = -10000000000L;
    private static final long STATE_LONG = -10000000002L;
    private static final long NONE_LONG = -10000000004L;

    public static void main(String[] args) {
        measuring();
        reckoning();
        fractions();
        tellingTooLittle();
        withTop();
        adopting();
        notAdopted();
        noWeightBelowNothing();
        adoptingWhatWeighsNothing();
        distances();
        check.finish("MeasuredTest");
    }

    private static void measuring() {
        VoltNumbers x = new VoltNumbers();
        for (int i = 0; i < 12; i++) {
            check.due("measure " + i, x.measure(15 - i, 99999 - i), i + 1);
        }
        check.due("a thirteenth", x.measure(3, 0), -3);
        check.due("one anew", x.measure(15, -99999), 12);
        check.due("count", x.count(2), 12);
        check.due("BAD ahead of FULL", x.measure(16, 0), -1);
        check.due("BAD volt ahead of FULL", x.measure(3, 100000), -1);
        VoltNumbers y = new VoltNumbers();
        check.due("code -1", y.measure(-1, 0), -1);
        check.due("volt -100000", y.measure(0, -100000), -1);
        check.due("nothing", y.count(2), 0);
    }

    private static void reckoning() {
        VoltNumbers x = check.told("bits 2;");
        check.due("nothing measured", x.reckon(0), NONE_LONG);
        x.measure(3, 70);
        x.measure(1, 15);
        x.measure(2, 50);
        check.due("offset", x.reckon(0), -5);
        check.due("offset by", x.reckon(1), 1);
        check.due("part 0", x.reckon(10), 20);
        check.due("part 0 by", x.reckon(30), 1);
        check.due("part 1", x.reckon(11), 55);
        x.measure(0, -5);
        check.due("a fourth that fits", x.reckon(10), 20);
        x.measure(0, -4);
        check.due("one that does not", x.reckon(10), STATE_LONG);
        int[] bad = {-1, 2, 9, 12, 29, 32, 100, Integer.MIN_VALUE, Integer.MAX_VALUE};
        for (int what : bad) {
            check.due("BAD ahead of STATE: reckon(" + what + ")", x.reckon(what), BAD_LONG);
        }
        VoltNumbers y = check.told("bits 2;");
        y.measure(0, 10);
        y.measure(1, 3);
        y.measure(2, -99999);
        check.due("a weight below 0", y.reckon(10), -7);
        check.due("a weight far below 0", y.reckon(11), -100009);
    }

    private static void fractions() {
        // Codes 0, 3, 5, 6 of 3 bits: the sums of two parts each.
        VoltNumbers x = check.told("bits 3;");
        x.measure(0, 0);
        x.measure(3, 1);
        x.measure(5, 2);
        x.measure(6, -4);
        long[] due = {7, 2, -5, 2, -3, 2};
        for (int part = 0; part < 3; part++) {
            check.due("part " + part, x.reckon(10 + part), due[2 * part]);
            check.due("part " + part + " by", x.reckon(30 + part), due[2 * part + 1]);
        }
        check.due("offset", x.reckon(0), 0);
        check.due("offset by", x.reckon(1), 1);
        check.due("no ints", x.adopt(), -3);
        check.due("nothing became other", x.rule(10), 0);
        // Codes 1, 2, 4, 7: twice the offset is the first three less the last.
        VoltNumbers y = check.told("bits 3;");
        y.measure(7, 8);
        y.measure(4, 4);
        y.measure(2, 2);
        y.measure(1, 1);
        long[] halves = {-1, 3, 5, 9};
        for (int i = 0; i < 4; i++) {
            check.due("halves " + i, y.reckon(i == 0 ? 0 : 9 + i), halves[i]);
            check.due("halves " + i + " by", y.reckon(i == 0 ? 1 : 29 + i), 2);
        }
    }

    private static void tellingTooLittle() {
        VoltNumbers x = check.told("bits 3;");
        x.measure(0, 5);
        x.measure(1, 6);
        x.measure(2, 8);
        check.due("the offset alone is told", x.reckon(0), NONE_LONG);
        check.due("adopt", x.adopt(), -4);
        check.due("BAD ahead of NONE", x.reckon(13), BAD_LONG);
        x.measure(3, 9);
        check.due("still too little", x.reckon(10), NONE_LONG);
        x.measure(3, 10);
        check.due("STATE ahead of NONE", x.reckon(10), STATE_LONG);
        check.due("adopt", x.adopt(), -2);
    }

    private static void withTop() {
        VoltNumbers x = check.told("bits 3; top; unit 10;");
        x.measure(0, 1);
        x.measure(1, 12);
        x.measure(3, 33);
        x.measure(5, 52);
        check.due("part 3 is not told", x.reckon(10), NONE_LONG);
        x.measure(7, 73);
        long[] weights = {11, 21, 19, 21};
        for (int part = 0; part < 4; part++) {
            check.due("part " + part, x.reckon(10 + part), weights[part]);
            check.due("part " + part + " by", x.reckon(30 + part), 1);
        }
        check.due("there is no part 4", x.reckon(14), BAD_LONG);
        check.due("adopt", x.adopt(), 5);
        check.due("miss 2", x.rule(12), -1);
        check.due("miss 3", x.rule(13), 1);
        check.due("out(7)", x.out(7), 73);
        check.due("adopt again", x.adopt(), 0);
    }

    private static void adopting() {
        VoltNumbers x = check.told("bits 2; unit 16; miss 0 3; miss 1 4;");
        x.measure(0, 999);
        x.measure(1, 999 + 19);
        x.measure(2, 999 + 32 + 999);
        check.due("offset and miss 1", x.adopt(), 2);
        check.due("offset", x.rule(2), 999);
        check.due("miss 0", x.rule(10), 3);
        check.due("miss 1", x.rule(11), 999);
        check.due("out", x.out(3), 999 + 19 + 1031);
        check.due("the measured stay", x.count(2), 3);
        check.due("by halves as well", x.halves(999 + 1031, -4), 2);
        check.due("a text puts all back", Check.tell(x, "bits 2;"), 1);
        check.due("offset", x.rule(2), 0);
        check.due("miss 1", x.rule(11), 0);
    }

    private static void notAdopted() {
        int[][] volts = {{1000, 1016, 1032}, {-1000, -984, -968}, {0, 1016, 32}, {0, 16, 1032}};
        for (int[] v : volts) {
            VoltNumbers x = check.told("bits 2;");
            x.measure(0, v[0]);
            x.measure(1, v[1]);
            x.measure(2, v[2]);
            check.due("out of bounds", x.adopt(), -3);
            check.due("the offset stays", x.rule(2), 0);
            check.due("miss 0 stays", x.rule(10), 0);
            check.due("miss 1 stays", x.rule(11), 0);
        }
    }

    private static void noWeightBelowNothing() {
        int[][] volts = {{0, -1, 32}, {0, 16, -1}, {5, 4, 37}, {-7, 9, -8}};
        for (int[] v : volts) {
            VoltNumbers x = measured("bits 2; miss 0 - 3;", v);
            check.due("a weight below 0", x.adopt(), -3);
            check.due("the offset stays", x.rule(2), 0);
            check.due("miss 0 stays", x.rule(10), -3);
            check.due("miss 1 stays", x.rule(11), 0);
            check.due("out stays", x.out(3), 13 + 32);
        }
        VoltNumbers y = measured("bits 2;", new int[] {-999, -999, -999});
        check.due("weights of 0", y.adopt(), 3);
        check.due("an offset below 0", y.rule(2), -999);
        check.due("miss 0", y.rule(10), -16);
        check.due("miss 1", y.rule(11), -32);
        check.due("out", y.out(3), -999);

        VoltNumbers far = check.told("bits 5; unit 99;");
        far.measure(0, 0);
        for (int part = 0; part < 4; part++) {
            far.measure(1 << part, 99 << part);
        }
        far.measure(16, 1584 - 1000);
        check.due("a miss of -1000 with a weight above 0", far.adopt(), -3);
        far.measure(16, 1584 - 999);
        check.due("a miss of -999", far.adopt(), 1);
        check.due("miss 4", far.rule(14), -999);
        check.due("out", far.out(16), 585);
    }

    private static void adoptingWhatWeighsNothing() {
        VoltNumbers x = measured("bits 2; miss 0 - 50;", new int[] {0, 0, 32});
        check.due("out", x.out(1), 0);
        check.due("the miss becomes that which makes it 0 just so", x.adopt(), 1);
        check.due("miss 0", x.rule(10), -16);
        check.due("adopt again", x.adopt(), 0);
    }

    /** A text told, then the volts measured of codes 0, 1, 2 and so on. */
    private static VoltNumbers measured(String text, int[] volts) {
        VoltNumbers x = check.told(text);
        for (int code = 0; code < volts.length; code++) {
            x.measure(code, volts[code]);
        }
        return x;
    }

    private static void distances() {
        VoltNumbers x = new VoltNumbers();
        check.due("sum of nothing", x.apart(0), 0);
        check.due("greatest of nothing", x.apart(1), 0);
        check.due("code of nothing", x.apart(2), -4);
        x.measure(9, 144 + 7);
        x.measure(2, 32);
        x.measure(5, 80 - 7);
        x.measure(1, 16 + 3);
        check.due("sum", x.apart(0), 17);
        check.due("greatest", x.apart(1), 7);
        check.due("the first by numbers", x.apart(2), 5);
        check.due("apart(3)", x.apart(3), -1);
        check.due("apart(-1)", x.apart(-1), -1);
        VoltNumbers y = new VoltNumbers();
        y.measure(7, 112);
        y.measure(4, 64);
        check.due("all as they are", y.apart(2), 4);
    }
}
