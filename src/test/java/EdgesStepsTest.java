import java.util.function.Supplier;

/** The edges that the document names for steps, sentence by sentence: Terms, 1, 2, promises 7 to 13. */
public final class EdgesStepsTest {
    private static final Check check = new Check();
    private static final Edges edges = new Edges(check);
    private static final long BAD_LONG = -10000000000L;
    private static final long STATE_LONG = -10000000002L;
    /** All parts weigh nothing: LSB is 0. */
    private static final Supplier<VoltNumbers> FLAT = edges.telling("bits 2;miss 0 -16;miss 1 -999;offset 9;");

    public static void main(String[] args) {
        codesOfAllBits();
        zeroAtLeast();
        zeroAtLeastEachWithTop();
        asTheTwoGreatestBitsTell();
        greatestAndLeastOut();
        whatIsZeroOrOne();
        lowestTerms();
        zeroIsZeroByOne();
        lsbIsZero();
        lsbIsJustAboveZero();
        worstOfSeveral();
        stepsAboutZero();
        stepsOfAllKinds();
        nearestOfSeveral();
        nearestVolts();
        check.finish("EdgesStepsTest");
    }

    /** "CODES: 0 to 2 to the n less 1", "BAD -100000", "STEP of a CODE (not the greatest)" */
    private static void codesOfAllBits() {
        for (int bits = 2; bits <= 8; bits++) {
            for (int top = 0; top <= (bits == 2 ? 0 : 1); top++) {
                Supplier<VoltNumbers> maker = edges.telling("bits " + bits + ";unit 3;" + (top == 1 ? "top;" : ""));
                int last = (1 << bits) - 1;
                VoltNumbers x = maker.get();
                for (int code = 0; code <= last; code += Math.max(1, last / 32)) {
                    check.due("out(" + code + ")", x.out(code), 3 * code);
                }
                check.due("out of the greatest", x.out(last), 3 * last);
                check.due("wide of 0", x.wide(0, 1), 1);
                check.due("wide of the last but one", x.wide(last - 1, 1), 1);
                check.due("bent of 0", x.bent(0, 1), 1);
                check.due("bent of the greatest", x.bent(last, 1), 1);
                check.due("codes", x.count(0), last + 1);
                check.due("parts", x.count(1), bits + top);
                for (long code : new long[] {-1, last + 1, Integer.MIN_VALUE, Integer.MAX_VALUE}) {
                    edges.refused(maker, -100000, "out", code);
                    edges.refused(maker, BAD_LONG, "wide", code, 0);
                    edges.refused(maker, BAD_LONG, "bent", code, 1);
                }
                edges.refused(maker, BAD_LONG, "wide", last, 0);
                edges.refused(maker, BAD_LONG, "wide", last, 1);
            }
        }
    }

    /** "PART i weighs UNIT times 2 to the i, and its MISS, 0 at least" */
    private static void zeroAtLeast() {
        for (int part = 0; part <= 3; part++) {
            int even = 5 << part;
            int[] misses = {1 - even, -even, -even - 1, -999, 1, 999};
            int[] weights = {1, 0, 0, 0, even + 1, even + 999};
            for (int i = 0; i < misses.length; i++) {
                VoltNumbers x = check.told("unit 5;offset 20;miss " + part + " " + misses[i] + ";");
                check.due("part " + part + " with " + misses[i], x.out(1 << part), 20 + weights[i]);
                check.due("all parts with it", x.out(15), 20 + 75 - even + weights[i]);
                check.due("all parts but it", x.out(15 - (1 << part)), 20 + 75 - even);
                check.due("the miss stays as told", x.rule(10 + part), misses[i]);
            }
        }
    }

    /** "three like ones of the weight of PART n less 2, each with a MISS of its own (0 at least each)" */
    private static void zeroAtLeastEachWithTop() {
        for (int part = 1; part <= 3; part++) {
            int[] misses = {-9, -10, -11, -999, 1, 999};
            int[] weights = {1, 0, 0, 0, 11, 1009};
            for (int i = 0; i < misses.length; i++) {
                VoltNumbers x = check.told("bits 3;top;unit 5;miss " + part + " " + misses[i] + ";");
                int sum = 0;
                for (int taken = 0; taken <= 3; taken++) {
                    sum += taken == 0 ? 0 : taken == part ? weights[i] : 10;
                    check.due("the first " + taken, x.out(2 * taken), sum);
                    check.due("the first " + taken + " and part 0", x.out(2 * taken + 1), sum + 5);
                }
            }
        }
    }

    /** "the first so many of them are taken as the two greatest bits tell" */
    private static void asTheTwoGreatestBitsTell() {
        for (int bits = 3; bits <= 8; bits++) {
            String misses = "miss " + (bits - 2) + " 1;miss " + (bits - 1) + " 20;miss " + bits + " 300;";
            VoltNumbers x = check.told("bits " + bits + ";top;unit 1;" + misses);
            int step = 1 << bits - 2;
            int[] more = {0, 1, 21, 321};
            for (int taken = 0; taken <= 3; taken++) {
                check.due(taken + " taken", x.out(taken * step), taken * step + more[taken]);
                int rest = taken * step + step - 1;
                check.due(taken + " taken and all others", x.out(rest), rest + more[taken]);
            }
        }
    }

    /** "OFFSET and the weights of its PARTS, summed": all of them at their bounds */
    private static void greatestAndLeastOut() {
        StringBuilder most = new StringBuilder("bits 8;unit 99;offset 999;");
        for (int part = 0; part <= 7; part++) {
            most.append("miss ").append(part).append(" 999;");
        }
        check.due("greatest", check.told(most.toString()).out(255), 255 * 99 + 8 * 999 + 999);
        most.append("miss 8 999;top;");
        check.due("greatest with top", check.told(most.toString()).out(255), 255 * 99 + 9 * 999 + 999);
        VoltNumbers least = check.told("bits 2;miss 0 -999;miss 1 -999;offset -999;");
        check.due("least", least.out(0), -999);
        check.due("least of the greatest", least.out(3), -999);
    }

    /** "0 the numerator, 1 the denominator", "BAD -1000000", "BAD -10000000000"; what of worst, back */
    private static void whatIsZeroOrOne() {
        edges.bounds(-1000000, 0, 0, 1, "lsb", 0);
        edges.bounds(BAD_LONG, 1, 0, 1, "wide", 0, 0);
        edges.bounds(BAD_LONG, 1, 0, 1, "wide", 6, 0);
        edges.bounds(BAD_LONG, 1, 0, 1, "bent", 0, 0);
        edges.bounds(BAD_LONG, 1, 0, 1, "bent", 7, 0);
        edges.bounds(-1, 0, 0, 1, "worst", 0, 0);
        edges.bounds(-1, 1, 0, 2, "worst", 0, 0);
        edges.bounds(-1, 1, 0, 2, "worst", 1, 0);
        edges.bounds(-1, 0, 0, 2, "back", 0);
    }

    private static void fraction(String of, long numerator, long denominator, long n, long d) {
        check.due(of + " numerator", numerator, n);
        check.due(of + " denominator", denominator, d);
    }

    /** "Fractions are in lowest terms, the denominator above 0" */
    private static void lowestTerms() {
        // OUT: 0, 8, 10, 18: LSB 18 by 3.
        VoltNumbers x = check.told("bits 2;unit 8;miss 1 -6;");
        fraction("lsb", x.lsb(0), x.lsb(1), 6, 1);
        fraction("wide(0), 2 by 6", x.wide(0, 0), x.wide(0, 1), 1, 3);
        fraction("wide(1), -4 by 6", x.wide(1, 0), x.wide(1, 1), -2, 3);
        fraction("bent(1), 2 by 6", x.bent(1, 0), x.bent(1, 1), 1, 3);
        fraction("bent(2), -2 by 6", x.bent(2, 0), x.bent(2, 1), -1, 3);
        fraction("worst wide", x.worst(0, 1), x.worst(0, 2), 2, 3);
        fraction("worst bent", x.worst(1, 1), x.worst(1, 2), 1, 3);
        // OUT: 0, 2, 3, 5: LSB 5 by 3, and nothing to shorten.
        VoltNumbers y = check.told("bits 2;unit 1;miss 0 1;miss 1 1;");
        fraction("lsb", y.lsb(0), y.lsb(1), 5, 3);
        fraction("wide(0), 6 by 5 less 1", y.wide(0, 0), y.wide(0, 1), 1, 5);
        fraction("wide(1), 3 by 5 less 1", y.wide(1, 0), y.wide(1, 1), -2, 5);
        fraction("bent(1)", y.bent(1, 0), y.bent(1, 1), 1, 5);
        fraction("bent(2), 9 less 10 by 5", y.bent(2, 0), y.bent(2, 1), -1, 5);
    }

    /** "(0 is 0 by 1)" */
    private static void zeroIsZeroByOne() {
        VoltNumbers x = check.told("bits 5;unit 7;offset -3;");
        for (int code = 0; code <= 30; code++) {
            fraction("wide(" + code + ")", x.wide(code, 0), x.wide(code, 1), 0, 1);
            fraction("bent(" + code + ")", x.bent(code, 0), x.bent(code, 1), 0, 1);
        }
        fraction("bent(31)", x.bent(31, 0), x.bent(31, 1), 0, 1);
        fraction("worst wide", x.worst(0, 1), x.worst(0, 2), 0, 1);
        fraction("worst bent", x.worst(1, 1), x.worst(1, 2), 0, 1);
        fraction("lsb", FLAT.get().lsb(0), FLAT.get().lsb(1), 0, 1);
    }

    /** "STATE -10000000002: LSB is 0 or below", behind BAD */
    private static void lsbIsZero() {
        for (int what = 0; what <= 1; what++) {
            for (int code = 0; code <= 2; code++) {
                edges.refused(FLAT, STATE_LONG, "wide", code, what);
                edges.refused(FLAT, STATE_LONG, "bent", code, what);
            }
            edges.refused(FLAT, STATE_LONG, "bent", 3, what);
            for (int which = 0; which <= 2; which++) {
                edges.refused(FLAT, -2, "worst", what, which);
            }
        }
        edges.refused(FLAT, BAD_LONG, "wide", 3, 0);
        edges.refused(FLAT, BAD_LONG, "wide", -1, 0);
        edges.refused(FLAT, BAD_LONG, "wide", 0, 2);
        edges.refused(FLAT, BAD_LONG, "bent", 4, 0);
        edges.refused(FLAT, BAD_LONG, "bent", -1, 0);
        edges.refused(FLAT, BAD_LONG, "bent", 0, -1);
        edges.refused(FLAT, -1, "worst", 2, 0);
        edges.refused(FLAT, -1, "worst", -1, 0);
        edges.refused(FLAT, -1, "worst", 0, 3);
        edges.refused(FLAT, -1, "worst", 0, -1);
    }

    /** LSB 1 by 255 is the least above 0. */
    private static void lsbIsJustAboveZero() {
        StringBuilder text = new StringBuilder("bits 8;unit 1;miss 0 0;");
        for (int part = 1; part <= 7; part++) {
            text.append("miss ").append(part).append(" -999;");
        }
        VoltNumbers x = check.told(text.toString());
        fraction("lsb", x.lsb(0), x.lsb(1), 1, 255);
        fraction("wide(0)", x.wide(0, 0), x.wide(0, 1), 254, 1);
        fraction("wide(1)", x.wide(1, 0), x.wide(1, 1), -256, 1);
        fraction("bent(254)", x.bent(254, 0), x.bent(254, 1), -254, 1);
        fraction("bent(255)", x.bent(255, 0), x.bent(255, 1), 0, 1);
        check.due("worst wide", x.worst(0, 0), 1);
        fraction("worst wide", x.worst(0, 1), x.worst(0, 2), 256, 1);
        check.due("worst bent, the first of two", x.worst(1, 0), 1);
        fraction("worst bent", x.worst(1, 1), x.worst(1, 2), 254, 1);
    }

    /** "The first CODE whose WIDE, BENT is greatest without its sign" */
    private static void worstOfSeveral() {
        check.due("all even: wide", new VoltNumbers().worst(0, 0), 0);
        check.due("all even: bent", new VoltNumbers().worst(1, 0), 0);
        // OUT: 0, 6, 9, 15 and 0, 4, 11, 15: BENT of 1 and 2 are alike but for the sign.
        check.due("above ahead of below", check.told("bits 2;unit 5;miss 0 1;miss 1 -1;").worst(1, 0), 1);
        check.due("below ahead of above", check.told("bits 2;unit 5;miss 0 -1;miss 1 1;").worst(1, 0), 1);
        // OUT: 0, 5, 10, 15, 3, 8, 13, 18: LSB 18 by 7; only STEP 3 is wide without its sign.
        VoltNumbers x = check.told("bits 3;unit 5;miss 2 -17;");
        check.due("below 0 is greatest", x.worst(0, 0), 3);
        fraction("-12 by 18/7 less 1", x.worst(0, 1), x.worst(0, 2), 17, 3);
        check.due("bent", x.worst(1, 0), 3);
        fraction("15 less 54/7, by 18/7", x.worst(1, 1), x.worst(1, 2), 17, 6);
        // OUT: 0, 10, 50, 60, 80, 90, 130, 140: LSB 20; STEPS 1 and 5 are of 40.
        VoltNumbers two = check.told("bits 3;unit 10;miss 1 30;miss 2 40;");
        check.due("the first of two alike", two.worst(0, 0), 1);
        fraction("40 by 20 less 1", two.worst(0, 1), two.worst(0, 2), 1, 1);
        // OUT: 0, 4, 4, 8, 8, 12, 12, 16: LSB 16 by 7; a STEP of 4 is wide by 3/4, one of 0 by 1.
        VoltNumbers steps = check.told("bits 3;unit 4;miss 1 -4;miss 2 -8;");
        check.due("the first STEP of 0", steps.worst(0, 0), 1);
        fraction("a STEP of 0", steps.worst(0, 1), steps.worst(0, 2), 1, 1);
        // OUT: 0, 12, 12, 24, 12, 24, 24, 36: the last STEPS are as wide as the first.
        VoltNumbers ends = check.told("bits 3;unit 12;miss 1 -12;miss 2 -36;");
        check.due("the STEP in the middle", ends.worst(0, 0), 3);
        fraction("-12 by 36/7 less 1", ends.worst(0, 1), ends.worst(0, 2), 10, 3);
    }

    /** "STEPS below 0, STEPS of 0, the least CODE with a STEP below 0 (2; NONE)" */
    private static void stepsAboutZero() {
        int[] misses = {-9, -10, -11};
        int[][] due = {{0, 0, -4}, {0, 1, -4}, {1, 0, 1}};
        for (int i = 0; i < misses.length; i++) {
            // STEP of CODE 1: the weight of PART 1 less that of PART 0.
            VoltNumbers x = check.told("bits 2;unit 10;miss 1 " + misses[i] + ";");
            for (int what = 0; what <= 2; what++) {
                check.due("back(" + what + ") with " + misses[i], x.back(what), due[i][what]);
            }
        }
    }

    /** "STEPS below 0, STEPS of 0": none, one, as many as can be */
    private static void stepsOfAllKinds() {
        VoltNumbers fresh = new VoltNumbers();
        VoltNumbers offset = check.told("offset -5;");
        int[] even = {0, 0, -4};
        for (int what = 0; what <= 2; what++) {
            check.due("a new one: back(" + what + ")", fresh.back(what), even[what]);
            check.due("with an offset below 0: back(" + what + ")", offset.back(what), even[what]);
        }
        // What an earlier text told of greater CODES is no STEP of the greatest one.
        VoltNumbers fewer = check.told("bits 3;unit 1;miss 0 -1;miss 1 -2;miss 2 -4;");
        check.due("seven of 0", fewer.back(1), 7);
        Check.tell(fewer, "bits 2;unit 1;miss 0 -1;miss 1 -2;");
        check.due("three of 0", fewer.back(1), 3);
        VoltNumbers flat = FLAT.get();
        check.due("none below 0", flat.back(0), 0);
        check.due("all of 0", flat.back(1), 3);
        check.due("none", flat.back(2), -4);
        VoltNumbers most = check.told("bits 8;unit 1;miss 0 999;");
        check.due("as many below 0 as can be", most.back(0), 127);
        check.due("none of 0", most.back(1), 0);
        check.due("the least", most.back(2), 1);
        VoltNumbers middle = check.told("bits 8;unit 1;miss 7 -2;");
        check.due("one below 0, in the middle", middle.back(0), 1);
        check.due("its CODE", middle.back(2), 127);
        VoltNumbers top = check.told("bits 3;top;unit 5;miss 2 -999;miss 3 -5;");
        // OUT: 0, 5, 10, 15, 10, 15, 15, 20.
        check.due("with top, below 0", top.back(0), 1);
        check.due("with top, of 0", top.back(1), 1);
        check.due("with top, the least", top.back(2), 3);
    }

    /** "The CODE whose OUT is nearest to a volt, of several the least." */
    private static void nearestOfSeveral() {
        VoltNumbers even = check.told("bits 2;unit 10;");
        int[] volts = {-1, 0, 4, 5, 6, 14, 15, 16, 24, 25, 26, 30, 31};
        int[] codes = {0, 0, 0, 0, 1, 1, 1, 2, 2, 2, 3, 3, 3};
        for (int i = 0; i < volts.length; i++) {
            check.due("nearest(" + volts[i] + ")", even.nearest(volts[i]), codes[i]);
        }
        // OUT: 0, 10, 6, 16: as near to 1 from above as to 2 from below.
        VoltNumbers back = check.told("bits 2;unit 10;miss 1 -14;");
        check.due("as near to 1 as to 2", back.nearest(8), 1);
        check.due("nearer to 2", back.nearest(7), 2);
        check.due("as near to 0 as to 2", back.nearest(3), 0);
        check.due("as near to 1 as to 3", back.nearest(13), 1);
        check.due("two with one OUT", check.told("bits 2;unit 10;miss 1 -10;").nearest(10), 1);
        check.due("all with one OUT", FLAT.get().nearest(9), 0);
        check.due("all with one OUT, far off", FLAT.get().nearest(99999), 0);
    }

    /** "BAD: no VOLTS", which are -99999 to 99999 */
    private static void nearestVolts() {
        edges.volts(-1, 0, "nearest", 0);
        check.due("nearest(99999)", new VoltNumbers().nearest(99999), 15);
        check.due("nearest(-99999)", new VoltNumbers().nearest(-99999), 0);
    }
}
