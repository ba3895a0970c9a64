import java.util.function.Supplier;

/** The edges that the document names for what was measured: 2, promises 26 to 29. */
public final class EdgesMeasuredTest {
    private static final Check check = new Check();
    private static final Edges edges = new Edges(check);
    private static final long BAD_LONG = -10000000000L;
    private static final long STATE_LONG = -10000000002L;
    private static final long NONE_LONG = -10000000004L;

    public static void main(String[] args) {
        codesAndVolts();
        twelve();
        anew();
        partsOfAllBits();
        justEnough();
        contradictions();
        firstThatFits();
        lowestTermsInAnyOrder();
        halves();
        thirds();
        nothingOfAnEarlierText();
        zeroByOne();
        adoptedJustWithinBounds();
        notAdoptedJustOutside();
        missesAtTheirBounds();
        noInts();
        howManyBecameOthers();
        apartOfNothing();
        apartBounds();
        greatestDistances();
        firstCodeByNumbers();
        check.finish("EdgesMeasuredTest");
    }

    /** An object told a text, with codes measured: code and volt, one behind the other. */
    private static Supplier<VoltNumbers> measured(String text, int... pairs) {
        return () -> {
            VoltNumbers x = check.told(text);
            for (int i = 0; i < pairs.length; i += 2) {
                check.due("measure(" + pairs[i] + ", " + pairs[i + 1] + ")", x.measure(pairs[i], pairs[i + 1]), i / 2 + 1);
            }
            return x;
        };
    }

    /** "BAD": no CODE, no VOLTS */
    private static void codesAndVolts() {
        edges.volts(-1, 1, "measure", 0, 0);
        edges.volts(-1, 1, "measure", 7, 0);
        for (int bits = 2; bits <= 8; bits++) {
            Supplier<VoltNumbers> maker = edges.telling("bits " + bits + ";");
            int last = (1 << bits) - 1;
            check.due("measure(" + last + ")", maker.get().measure(last, 0), 1);
            for (long code : new long[] {-1, last + 1, Integer.MIN_VALUE, Integer.MAX_VALUE}) {
                edges.refused(maker, -1, "measure", code, 0);
            }
        }
    }

    private static Supplier<VoltNumbers> twelveMeasured() {
        int[] pairs = new int[24];
        for (int i = 0; i < 12; i++) {
            pairs[2 * i] = 14 - i;
            pairs[2 * i + 1] = 16 * (14 - i) + i;
        }
        return measured("", pairs);
    }

    /** "MEASURED (12)", "FULL" */
    private static void twelve() {
        Supplier<VoltNumbers> maker = twelveMeasured();
        check.due("twelve", maker.get().count(2), 12);
        for (int code : new int[] {0, 1, 2, 15}) {
            edges.refused(maker, -3, "measure", code, 0);
            edges.refused(maker, -1, "measure", code, 100000);
        }
        edges.refused(maker, -1, "measure", 16, 0);
        edges.refused(maker, -1, "measure", -1, 0);
        check.due("what was measured stays", maker.get().apart(0), 66);
        VoltNumbers x = maker.get();
        x.text();
        check.due("behind a text there is room again", x.measure(0, 0), 1);
    }

    /** "A CODE's OUT is MEASURED (anew, if it was): how many are." */
    private static void anew() {
        for (int code = 3; code <= 14; code++) {
            VoltNumbers x = twelveMeasured().get();
            check.due("anew though there are twelve", x.measure(code, 16 * code + 1000), 12);
            check.due("the last one counts", x.apart(1), 1000);
            check.due("for its CODE", x.apart(2), code);
            check.due("in place of the first one", x.apart(0), 1066 - (14 - code));
        }
        VoltNumbers x = new VoltNumbers();
        check.due("one", x.measure(5, 1), 1);
        check.due("the same", x.measure(5, 1), 1);
        check.due("another", x.measure(5, 99999), 1);
        check.due("a second", x.measure(6, 1), 2);
    }

    /** "0, 1 OFFSET as a fraction, 10 and i, 30 and i: the weight of PART i (those three with TOP)" */
    private static void partsOfAllBits() {
        for (int bits = 2; bits <= 8; bits++) {
            for (int top = 0; top <= (bits == 2 ? 0 : 1); top++) {
                int parts = bits + top;
                Supplier<VoltNumbers> maker = edges.telling("bits " + bits + ";" + (top == 1 ? "top;" : ""));
                for (long what : new long[] {0, 1, 10, 9 + parts, 30, 29 + parts}) {
                    edges.refused(maker, NONE_LONG, "reckon", what);
                }
                long[] bad = {-1, 2, 9, 10 + parts, 29, 30 + parts, Integer.MIN_VALUE, Integer.MAX_VALUE};
                for (long what : bad) {
                    edges.refused(maker, BAD_LONG, "reckon", what);
                }
                for (int what = 10 + parts; what <= 29; what++) {
                    check.due("reckon(" + what + ")", maker.get().reckon(what), BAD_LONG);
                }
            }
        }
    }

    /** The codes that tell all: none, each single PART, the first two and all three of TOP. */
    private static int[] tellingAll(int bits, int top) {
        int[] codes = new int[1 + bits + top];
        for (int i = 0; i < bits; i++) {
            codes[1 + i] = 1 << i;
        }
        if (top == 1) {
            codes[1 + bits] = 3 << bits - 2;
        }
        return codes;
    }

    /** "NONE: they do not tell all": one less than there are unknowns, for each of these. */
    private static void justEnough() {
        for (int bits = 2; bits <= 8; bits++) {
            for (int top = 0; top <= (bits == 2 ? 0 : 1); top++) {
                String text = "bits " + bits + ";unit 2;" + (top == 1 ? "top;" : "");
                int[] codes = tellingAll(bits, top);
                for (int without = 0; without < codes.length; without++) {
                    VoltNumbers x = check.told(text);
                    for (int i = 0; i < codes.length; i++) {
                        if (i != without) {
                            x.measure(codes[i], 7 + 3 * codes[i]);
                        }
                    }
                    check.due("one is missing", x.reckon(0), NONE_LONG);
                    check.due("one is missing: adopt", x.adopt(), -4);
                    check.due("one is missing: the offset stays", x.rule(2), 0);
                    x.measure(codes[without], 7 + 3 * codes[without]);
                    allTold(x, bits, top);
                }
            }
        }
    }

    private static void allTold(VoltNumbers x, int bits, int top) {
        check.due("offset", x.reckon(0), 7);
        check.due("offset by", x.reckon(1), 1);
        for (int part = 0; part < bits + top; part++) {
            int power = top == 1 ? Math.min(part, bits - 2) : part;
            check.due("part " + part, x.reckon(10 + part), 3 << power);
            check.due("part " + part + " by", x.reckon(30 + part), 1);
        }
        check.due("adopt", x.adopt(), 1 + bits + top);
        check.due("the greatest OUT", x.out((1 << bits) - 1), 7 + 3 * ((1 << bits) - 1));
    }

    /** "STATE -10000000002: those MEASURED contradict one another" */
    private static void contradictions() {
        int[] fits = {0, 5, 1, 8, 2, 11, 3, 14};
        VoltNumbers x = measured("bits 2;", fits).get();
        check.due("a fourth that fits", x.reckon(0), 5);
        for (int i = 0; i < 4; i++) {
            for (int off : new int[] {-1, 1}) {
                int[] pairs = fits.clone();
                pairs[2 * i + 1] += off;
                Supplier<VoltNumbers> maker = measured("bits 2;", pairs);
                for (long what : new long[] {0, 1, 10, 11, 30, 31}) {
                    edges.refused(maker, STATE_LONG, "reckon", what);
                }
                edges.refused(maker, -2, "adopt");
                VoltNumbers again = maker.get();
                again.measure(pairs[2 * i], fits[2 * i + 1]);
                check.due("put right", again.reckon(10), 3);
            }
        }
        // Twelve of 4 bits, the last one off by one.
        VoltNumbers y = new VoltNumbers();
        for (int code = 0; code <= 11; code++) {
            y.measure(code, 16 * code + (code == 11 ? 1 : 0));
        }
        check.due("the twelfth contradicts", y.reckon(13), STATE_LONG);
        y.measure(11, 176);
        check.due("the twelfth fits", y.reckon(13), 128);
    }

    /** BAD ahead of STATE, STATE ahead of NONE, each ahead of FULL */
    private static void firstThatFits() {
        Supplier<VoltNumbers> both = measured("bits 3;", 0, 0, 1, 1, 2, 2, 3, 4);
        edges.refused(both, STATE_LONG, "reckon", 0);
        edges.refused(both, STATE_LONG, "reckon", 12);
        edges.refused(both, BAD_LONG, "reckon", 13);
        edges.refused(both, BAD_LONG, "reckon", 2);
        edges.refused(both, -2, "adopt");
        Supplier<VoltNumbers> little = measured("bits 3;", 0, 99999, 1, 0);
        edges.refused(little, NONE_LONG, "reckon", 0);
        edges.refused(little, BAD_LONG, "reckon", 13);
        edges.refused(little, -4, "adopt");
        edges.refused(Edges.FRESH, NONE_LONG, "reckon", 0);
        edges.refused(Edges.FRESH, -4, "adopt");
    }

    /** "Fractions are in lowest terms, the denominator above 0", however the codes stand in a row */
    private static void lowestTermsInAnyOrder() {
        int[] codes = {0, 3, 5, 6};
        int[] volts = {0, 1, 2, -4};
        long[] due = {0, 1, 7, 2, -5, 2, -3, 2};
        for (int order = 0; order < 256; order++) {
            int[] row = {order & 3, order >> 2 & 3, order >> 4 & 3, order >> 6};
            VoltNumbers x = check.told("bits 3;");
            for (int i : row) {
                x.measure(codes[i], volts[i]);
            }
            if (x.count(2) == 4) {
                for (int unknown = 0; unknown < 4; unknown++) {
                    check.due("numerator", x.reckon(unknown == 0 ? 0 : 9 + unknown), due[2 * unknown]);
                    check.due("denominator", x.reckon(unknown == 0 ? 1 : 29 + unknown), due[2 * unknown + 1]);
                }
            }
        }
        VoltNumbers whole = measured("bits 3;", 0, 0, 3, 2, 5, 4, 6, 8).get();
        long[] weights = {-1, 3, 5};
        for (int part = 0; part < 3; part++) {
            check.due("-2, 6, 10 by 2", whole.reckon(10 + part), weights[part]);
            check.due("by", whole.reckon(30 + part), 1);
        }
    }

    /** The OFFSET too, and halves of PARTS that are reckoned one behind the other. */
    private static void halves() {
        VoltNumbers x = measured("bits 3;", 7, 8, 4, 4, 2, 2, 1, 1).get();
        long[] due = {-1, 3, 5, 9};
        for (int unknown = 0; unknown < 4; unknown++) {
            check.due("halves", x.reckon(unknown == 0 ? 0 : 9 + unknown), due[unknown]);
            check.due("by", x.reckon(unknown == 0 ? 1 : 29 + unknown), 2);
        }
        VoltNumbers y = measured("bits 6;", 0, 0, 3, 1, 5, 2, 6, -4, 24, 3, 40, 4, 48, 6).get();
        long[] weights = {7, -5, -3, 1, 5, 7};
        for (int part = 0; part < 6; part++) {
            check.due("halves of part " + part, y.reckon(10 + part), weights[part]);
            check.due("by", y.reckon(30 + part), 2);
        }
        VoltNumbers z = measured("bits 6;unit 1;", 0, 10, 3, 14, 5, 16, 6, 16, 24, 36, 40, 46, 48, 50).get();
        // Without the offset: 4, 6, 6, then 26, 36, 40.
        int[] whole = {2, 2, 4, 11, 15, 25};
        check.due("the offset and all but parts 1 and 2", z.adopt(), 5);
        for (int part = 0; part < 6; part++) {
            check.due("miss " + part, z.rule(10 + part), whole[part] - (1 << part));
        }
        check.due("out", z.out(63), 10 + 59);
    }

    /** "(Nothing is MEASURED then.)": what was reckoned ahead of a text is nothing behind it. */
    private static void nothingOfAnEarlierText() {
        VoltNumbers x = measured("bits 2;", 0, 0, 1, 16, 2, 32, 3, 99).get();
        check.due("contradicting", x.reckon(0), STATE_LONG);
        Check.tell(x, "bits 2;");
        check.due("nothing", x.reckon(0), NONE_LONG);
        check.due("nothing to adopt", x.adopt(), -4);
        x.measure(0, 0);
        x.measure(1, 16);
        check.due("two are too few", x.reckon(0), NONE_LONG);
        x.measure(2, 33);
        check.due("three are enough", x.reckon(11), 33);
        check.due("apart", x.apart(0), 1);
    }

    /** "(fractions)": by 3, and of the greatest volts */
    private static void thirds() {
        VoltNumbers x = measured("", 0, 0, 7, 1, 11, 0, 13, 0, 14, 0).get();
        int[] due = {1, 1, 1, -2};
        for (int part = 0; part < 4; part++) {
            check.due("thirds of part " + part, x.reckon(10 + part), due[part]);
            check.due("by", x.reckon(30 + part), 3);
        }
        check.due("no ints", x.adopt(), -3);
        VoltNumbers far = measured("", 0, 99999, 7, -99999, 11, -99999, 13, 99999, 14, 99999).get();
        // Without the offset: twice -199998 and twice 0, by 3; PART 0 is not in 14, which is 0.
        check.due("far below 0", far.reckon(10), -133332);
        check.due("by", far.reckon(30), 1);
        check.due("PART 3 is not in 7", far.reckon(13), -133332 + 199998);
    }

    /** "(0 is 0 by 1)" */
    private static void zeroByOne() {
        VoltNumbers x = measured("bits 3;", 0, 0, 3, 0, 5, 0, 6, 0).get();
        for (int unknown = 0; unknown < 4; unknown++) {
            check.due("0", x.reckon(unknown == 0 ? 0 : 9 + unknown), 0);
            check.due("by 1", x.reckon(unknown == 0 ? 1 : 29 + unknown), 1);
        }
    }

    /** "if these are ints within bounds": OFFSET -999 to 999, MISSES of weights of 0 and more up to 999 */
    private static void adoptedJustWithinBounds() {
        int[][] within = {
            // offset, weight of PART 0, of PART 1; 16 and 32 are even
            {999, 16, 32}, {-999, 16, 32}, {0, 1015, 32}, {0, 16, 1031}, {0, 0, 32}, {0, 16, 0},
            {-999, 0, 0}, {999, 1015, 1031},
        };
        for (int[] row : within) {
            VoltNumbers x = measured("bits 2;", 0, row[0], 1, row[0] + row[1], 2, row[0] + row[2]).get();
            int others = (row[0] != 0 ? 1 : 0) + (row[1] != 16 ? 1 : 0) + (row[2] != 32 ? 1 : 0);
            check.due("adopt", x.adopt(), others);
            check.due("offset", x.rule(2), row[0]);
            check.due("miss 0", x.rule(10), row[1] - 16);
            check.due("miss 1", x.rule(11), row[2] - 32);
            check.due("all parts", x.out(3), row[0] + row[1] + row[2]);
            check.due("apart", x.apart(0), 0);
        }
    }

    /** "FULL: not so" */
    private static void notAdoptedJustOutside() {
        int[][] outside = {
            {1000, 16, 32}, {-1000, 16, 32}, {0, 1016, 32}, {0, 16, 1032}, {0, -1, 32}, {0, 16, -1},
            {5, 17, 1032}, {1000, 17, 33}, {99983, 16, 0}, {-99999, 99999, 0},
        };
        for (int[] row : outside) {
            edges.refused(measured("bits 2;", 0, row[0], 1, row[0] + row[1], 2, row[0] + row[2]), -3, "adopt");
        }
    }

    /** A great PART has room for a MISS of -999: bits 6, unit 99 and top make PARTS 4, 5, 6 weigh 1584. */
    private static void missesAtTheirBounds() {
        int[] codes = tellingAll(6, 1);
        for (int part = 4; part <= 6; part++) {
            int[] misses = {-999, 999, -1000, 1000};
            for (int miss : misses) {
                int[] pairs = new int[2 * codes.length];
                for (int i = 0; i < codes.length; i++) {
                    boolean takes = codes[i] >> 4 > part - 4;
                    pairs[2 * i] = codes[i];
                    pairs[2 * i + 1] = 99 * codes[i] + (takes ? miss : 0);
                }
                Supplier<VoltNumbers> maker = measured("bits 6;unit 99;top;", pairs);
                VoltNumbers x = maker.get();
                check.due("the weight of part " + part, x.reckon(10 + part), 1584 + miss);
                if (Math.abs(miss) > 999) {
                    edges.refused(maker, -3, "adopt");
                } else {
                    check.due("adopt", x.adopt(), 1);
                    check.due("miss " + part, x.rule(10 + part), miss);
                    check.due("out", x.out(63), 99 * 63 + miss);
                }
            }
        }
    }

    /** One that is no int is enough for FULL: a PART's weight, the OFFSET. */
    private static void noInts() {
        edges.refused(measured("bits 3;", 0, 0, 3, 1, 5, 2, 6, 4), -3, "adopt");
        edges.refused(measured("bits 3;", 7, 8, 4, 4, 2, 2, 1, 1), -3, "adopt");
        VoltNumbers x = measured("bits 3;", 7, 9, 4, 4, 2, 2, 1, 1).get();
        check.due("-2 by 2 is an int", x.reckon(0), -1);
        check.due("adopt", x.adopt(), 4);
        check.due("offset", x.rule(2), -1);
        int[] weights = {2, 3, 5};
        for (int part = 0; part < 3; part++) {
            check.due("miss " + part, x.rule(10 + part), weights[part] - (16 << part));
            check.due("out of it", x.out(1 << part), weights[part] - 1);
        }
        check.due("all parts", x.out(7), 9);
    }

    /** "how many became others" */
    private static void howManyBecameOthers() {
        VoltNumbers x = measured("bits 2;miss 0 3;offset 5;", 0, 5, 1, 24, 2, 37).get();
        check.due("none", x.adopt(), 0);
        x.measure(0, 6);
        x.measure(1, 25);
        x.measure(2, 38);
        check.due("the offset alone", x.adopt(), 1);
        check.due("offset", x.rule(2), 6);
        check.due("again", x.adopt(), 0);
        x.measure(1, 26);
        check.due("a miss alone", x.adopt(), 1);
        x.measure(0, 0);
        check.due("all of them", x.adopt(), 3);
        check.due("those measured stay", x.count(2), 3);
        check.due("the latest text stays", x.fault(), 0);
        VoltNumbers y = Edges.USED.get();
        check.due("four of five", y.adopt(), 4);
        check.due("the tape stays", y.count(4), 45);
    }

    /** "(2; NONE)" */
    private static void apartOfNothing() {
        VoltNumbers x = new VoltNumbers();
        int[] due = {0, 0, -4};
        for (int what = 0; what <= 2; what++) {
            check.due("apart(" + what + ") of nothing", x.apart(what), due[what]);
        }
        x.measure(15, 240);
        int[] one = {0, 0, 15};
        for (int what = 0; what <= 2; what++) {
            check.due("apart(" + what + ") of one", x.apart(what), one[what]);
        }
    }

    /** "the sum (what 0), the greatest (1), the first CODE by numbers with that (2; NONE). BAD." */
    private static void apartBounds() {
        edges.bounds(-1, 0, 0, 2, "apart", 0);
    }

    /** "How far MEASURED ones are from OUT": twelve of them, as far as can be */
    private static void greatestDistances() {
        int[] pairs = new int[24];
        for (int i = 0; i < 12; i++) {
            pairs[2 * i] = i;
            pairs[2 * i + 1] = -99999;
        }
        VoltNumbers x = measured("unit 1;miss 0 -999;miss 1 -999;miss 2 -999;miss 3 -999;offset 999;", pairs).get();
        check.due("sum", x.apart(0), 12 * 100998);
        check.due("greatest", x.apart(1), 100998);
        check.due("its first CODE", x.apart(2), 0);
        x.measure(11, 99999);
        check.due("sum", x.apart(0), 11 * 100998 + 99000);
    }

    /** "without signs", "the first CODE by numbers with that" */
    private static void firstCodeByNumbers() {
        check.due("above and below alike", measured("", 9, 144 + 5, 4, 64 - 5, 2, 32 + 4).get().apart(2), 4);
        check.due("below and above alike", measured("", 4, 64 - 5, 9, 144 + 5).get().apart(2), 4);
        check.due("the greatest comes last", measured("", 1, 16, 2, 32 + 1, 3, 48 - 2).get().apart(2), 3);
        check.due("all as they are", measured("", 12, 192, 3, 48, 7, 112).get().apart(2), 3);
        check.due("sum", measured("", 9, 144 + 5, 4, 64 - 5, 2, 32 + 4).get().apart(0), 14);
    }
}
