import java.util.function.Supplier;

/** The edges that the document names for weighing by halves: 2, promises 14 to 16. */
public final class EdgesHalvesTest {
    private static final Check check = new Check();
    private static final Edges edges = new Edges(check);

    public static void main(String[] args) {
        voltsAndBits();
        outOfItOrMore();
        leanAtItsBounds();
        theOtherThing();
        withTopBitsAsWell();
        upperEndOfRange();
        lowerEndOfRange();
        notTheNearestAtTheEnds();
        leastRange();
        neverComes();
        moreThan20000();
        weakBits();
        check.finish("EdgesHalvesTest");
    }

    /** "BAD": no VOLTS, no bit; "(NONE: at none)" */
    private static void voltsAndBits() {
        edges.volts(-1, 0, "halves", 0, -4);
        edges.volts(-1, 0, "halves", 0, 0);
        edges.volts(-1, 0, "weak", 0);
        for (int bits = 2; bits <= 8; bits++) {
            Supplier<VoltNumbers> maker = edges.telling("bits " + bits + ";unit 1;");
            // Of volt 0 the COMPARER says no but at bit b, whose lower ones then weigh nothing.
            check.due("none wrong", maker.get().halves(0, -4), 0);
            for (int b = 0; b < bits; b++) {
                check.due("wrong at " + b + " of " + bits, maker.get().halves(0, b), 1 << b);
            }
            for (long b : new long[] {-1, -2, -3, -5, bits, bits + 1, 32, Integer.MIN_VALUE, Integer.MAX_VALUE}) {
                edges.refused(maker, -1, "halves", 0, b);
            }
        }
        edges.refused(Edges.USED, -1, "halves", 100000, 3);
        check.due("three bits with top, not four", Edges.USED.get().halves(0, 2), 4);
        edges.refused(Edges.USED, -1, "halves", 0, 3);
    }

    /** "the COMPARER says yes, if the volt and lean are OUT of it or more" */
    private static void outOfItOrMore() {
        int[] leans = {0, 5, -5};
        for (int lean : leans) {
            VoltNumbers x = check.told("bits 2;unit 10;offset -3;lean " + lean + ";");
            for (int code = 1; code <= 3; code++) {
                int just = 10 * code - 3 - lean;
                check.due("just yes", x.halves(just, -4), code);
                check.due("just no", x.halves(just - 1, -4), code - 1);
            }
        }
    }

    /** "lean: of the COMPARER (-999 to 999": added to the greatest and least of VOLTS */
    private static void leanAtItsBounds() {
        VoltNumbers up = check.told("bits 2;unit 10;lean 999;");
        check.due("-990", up.halves(-990, -4), 0);
        check.due("-989", up.halves(-989, -4), 1);
        check.due("-99999", up.halves(-99999, -4), 0);
        check.due("99999", up.halves(99999, -4), 3);
        VoltNumbers down = check.told("bits 2;unit 10;lean -999;");
        check.due("1008", down.halves(1008, -4), 0);
        check.due("1009", down.halves(1009, -4), 1);
        check.due("99999", down.halves(99999, -4), 3);
        check.due("-99999", down.halves(-99999, -4), 0);
    }

    /** "At one TRIAL (told by the bit) the COMPARER can say the other thing." */
    private static void theOtherThing() {
        VoltNumbers x = check.told("bits 2;unit 10;");
        int[][] due = {
            // volt, none, at 0, at 1
            {-99999, 0, 1, 2}, {9, 0, 1, 2}, {10, 1, 0, 2}, {19, 1, 0, 2}, {20, 2, 3, 1}, {29, 2, 3, 1},
            {30, 3, 2, 1}, {99999, 3, 2, 1},
        };
        for (int[] row : due) {
            check.due("none at " + row[0], x.halves(row[0], -4), row[1]);
            check.due("0 at " + row[0], x.halves(row[0], 0), row[2]);
            check.due("1 at " + row[0], x.halves(row[0], 1), row[3]);
        }
    }

    /** "(With TOP bits as well.)" */
    private static void withTopBitsAsWell() {
        // OUT: 0, 10, 25, 35, 40, 50, 70, 80.
        VoltNumbers x = check.told("bits 3;top;unit 10;miss 1 5;miss 2 -5;miss 3 10;");
        int[] outs = {0, 10, 25, 35, 40, 50, 70, 80};
        for (int code = 1; code <= 7; code++) {
            check.due("out(" + code + ")", x.out(code), outs[code]);
            check.due("just yes", x.halves(outs[code], -4), code);
            check.due("just no", x.halves(outs[code] - 1, -4), code - 1);
        }
        check.due("wrong at the greatest bit", x.halves(80, 2), 3);
        check.due("wrong at the next one", x.halves(80, 1), 5);
        check.due("wrong at the greatest bit, from below", x.halves(0, 2), 4);
    }

    private static void ranges(String text, int come, int never, int least, int off) {
        int[] due = {come, never, least, off};
        VoltNumbers x = check.told(text);
        for (int what = 0; what <= 3; what++) {
            check.due("range(" + what + ") of '" + text + "'", x.range(what), due[what]);
        }
    }

    /** "to OUT of the greatest CODE and UNIT": at 40 the greatest CODE just comes. */
    private static void upperEndOfRange() {
        // Each CODE begins 10 above its OUT, so all but the first 16 volts (-10 to 5) and 40 are too low.
        ranges("bits 2;unit 10;lean -10;", 4, 0, -4, 34);
        ranges("bits 2;unit 10;lean -11;", 3, 1, 3, 35);
        ranges("bits 2;unit 10;lean -10;offset -500;", 4, 0, -4, 34);
        ranges("bits 2;unit 10;lean -11;offset 999;", 3, 1, 3, 35);
        ranges("bits 2;unit 10;lean -40;", 1, 3, 1, 35);
    }

    /** "volts from OUT of 0 less UNIT": at -10 CODE 0 just comes. */
    private static void lowerEndOfRange() {
        // At -10 CODE 0 comes and is the nearest; -9 to 5 are off, and all of 6 to 25.
        ranges("bits 2;unit 10;lean 19;", 4, 0, -4, 35);
        ranges("bits 2;unit 10;lean 20;", 3, 1, 0, 36);
        ranges("bits 2;unit 10;lean 19;offset -500;", 4, 0, -4, 35);
        ranges("bits 2;unit 10;lean 20;offset 999;", 3, 1, 0, 36);
        ranges("bits 2;unit 10;lean 999;", 1, 3, 0, 36);
    }

    /** "volts whose CODE is not the nearest": of two as near the least one is it. */
    private static void notTheNearestAtTheEnds() {
        ranges("bits 2;unit 10;", 4, 0, -4, 12);
        ranges("bits 2;unit 10;lean 4;", 4, 0, -4, 0);
        ranges("bits 2;unit 10;lean 5;", 4, 0, -4, 3);
        ranges("bits 2;unit 10;lean 3;", 4, 0, -4, 3);
        ranges("bits 2;unit 10;lean 4;offset 999;", 4, 0, -4, 0);
        ranges("bits 2;unit 10;lean 4;offset -35;", 4, 0, -4, 0);
        // The new object had a CODE 4 with OUT 64, just above that of the greatest CODE now; it is none any more.
        ranges("bits 2;unit 21;", 4, 0, -4, 30);
        // Between two OUTS that are an odd number of volts apart none is as near to both: 1, 2, 6, 7, 11, 12 are off.
        ranges("bits 2;unit 5;lean 4;", 4, 0, -4, 6);
        ranges("bits 2;unit 5;lean -4;", 4, 0, -4, 16);
        // OUT: 0, 10, 6, 16: 8 comes to CODE 2, but 1 is as near and less; 4, 5 and 8 to 15 are off.
        ranges("bits 2;unit 10;miss 1 -14;", 3, 1, 1, 10);
        // OUT: 0, 10, 6, 16, 10, 20, 16, 26: 8 comes to CODE 2 again, as near as 1 and 4.
        ranges("bits 3;unit 10;miss 1 -14;miss 2 -30;", 5, 3, 1, 20);
        // OUT: 0, 10, 10, 20: CODE 2 comes for 10 to 19, but the nearest up to 15 is 1.
        ranges("bits 2;unit 10;miss 1 -10;", 3, 1, 1, 14);
    }

    /** All parts weigh nothing: three volts, of which those from OUT on come to the greatest CODE. */
    private static void leastRange() {
        ranges("bits 2;unit 1;miss 0 -1;miss 1 -2;offset 7;", 2, 2, 1, 2);
        ranges("bits 2;unit 1;miss 0 -1;miss 1 -2;lean 1;", 1, 3, 0, 3);
        ranges("bits 2;unit 1;miss 0 -1;miss 1 -2;lean -2;", 1, 3, 1, 0);
    }

    /** "that never come (1), the least of these (2; NONE)" */
    private static void neverComes() {
        // OUT: 0, 10, 5, 15: CODE 1 never comes; 2 does for 5 to 14. 3 and 4, 8 to 12, 13 and 14 are off.
        ranges("bits 2;unit 10;miss 1 -15;", 3, 1, 1, 9);
        check.due("all come", check.told("bits 8;unit 1;").range(2), -4);
        check.due("all come", check.told("bits 8;unit 1;").range(0), 256);
        check.due("only the greatest does", check.told("bits 8;unit 1;lean 999;").range(1), 255);
        check.due("then 0 is the least that never comes", check.told("bits 8;unit 1;lean 999;").range(2), 0);
        check.due("only 0 comes", check.told("bits 8;unit 1;lean -999;").range(0), 1);
        check.due("then 1 is", check.told("bits 8;unit 1;lean -999;").range(2), 1);
    }

    /** "BAD; STATE: RANGE has more than 20000 volts, or none." */
    private static void moreThan20000() {
        edges.bounds(-1, 0, 0, 3, "range", 0);
        String[] most = {"bits 8;unit 77;miss 0 210;", "bits 8;top;unit 77;miss 8 210;", "bits 8;unit 77;miss 7 210;offset -999;"};
        String[] more = {"bits 8;unit 77;miss 0 211;", "bits 8;top;unit 77;miss 8 211;", "bits 8;unit 77;miss 7 211;offset -999;"};
        for (int i = 0; i < most.length; i++) {
            VoltNumbers x = check.told(most[i]);
            check.due("20000 volts", x.out(255) - x.out(0) + 2 * 77 + 1, 20000);
            Supplier<VoltNumbers> beyond = edges.telling(more[i]);
            for (int what = 0; what <= 3; what++) {
                check.unlike("range(" + what + ") of 20000 volts", x.range(what), -2);
                edges.refused(beyond, -2, "range", what);
            }
            edges.refused(beyond, -1, "range", -1);
            edges.refused(beyond, -1, "range", 4);
        }
        check.due("20000 volts: all come", check.told(most[2]).range(0), 256);
    }

    /** "bits at whose TRIAL the wrong thing would change the CODE": it changes that bit itself. */
    private static void weakBits() {
        for (int bits = 2; bits <= 8; bits++) {
            VoltNumbers x = check.told("bits " + bits + ";unit 1;miss 0 5;");
            for (int volt : new int[] {-99999, -1, 0, 1, 5, 6, 300, 99999}) {
                check.due("weak(" + volt + ") of " + bits, x.weak(volt), (1 << bits) - 1);
            }
        }
        check.due("with top", Edges.USED.get().weak(20), 7);
    }
}
