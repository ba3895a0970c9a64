import java.util.function.Supplier;

/** The edges that the document names for sheets and counts: 2, promises 30 to 33. */
public final class EdgesSheetsTest {
    private static final Check check = new Check();
    private static final Edges edges = new Edges(check);

    public static void main(String[] args) {
        sheetBounds();
        sizeBelowZero();
        newRowOfZeros();
        layBounds();
        layFaults();
        lowestBits();
        waveBounds();
        nullCastIndex();
        fromCellOn();
        noVolts();
        theFirstMet();
        codesOfAWave();
        belowTheOneBefore();
        weighedAsToldNow();
        countBounds();
        countsOfAll();
        check.finish("EdgesSheetsTest");
    }

    /** "SHEETS 0 to 3", "BYTES (lane 0), SHORTS (1), INTS (2) with 0 to 64 CELLS", "BAD: also n above 64" */
    private static void sheetBounds() {
        edges.bounds(-1, 0, 0, 3, "sheet", 0, 1, 5);
        edges.bounds(-1, 1, 0, 2, "sheet", 0, 0, 5);
        for (long n : new long[] {65, 66, 1000, Integer.MAX_VALUE}) {
            for (int k = 0; k <= 3; k++) {
                edges.refused(Edges.FRESH, -1, "sheet", k, 0, n);
                edges.refused(Edges.USED, -1, "sheet", k, 2, n);
            }
        }
        for (int lane = 0; lane <= 2; lane++) {
            for (int n : new int[] {0, 1, 63, 64}) {
                VoltNumbers x = new VoltNumbers();
                check.due("sheet(0, " + lane + ", " + n + ")", x.sheet(0, lane, n), 1);
                check.due("its cells", x.count(5), n);
                check.due("the last cell", x.lay(0, n - 1, 1), n == 0 ? -12 : 1);
                check.due("none behind", x.lay(0, n, 1), -12);
            }
        }
    }

    /** "4 SIZE (below 0)", "-10 - 4", behind BAD */
    private static void sizeBelowZero() {
        for (long n : new long[] {-1, -2, -64, Integer.MIN_VALUE}) {
            for (int k = 0; k <= 3; k++) {
                for (int lane = 0; lane <= 2; lane++) {
                    edges.refused(Edges.FRESH, -14, "sheet", k, lane, n);
                    edges.refused(Edges.USED, -14, "sheet", k, lane, n);
                }
            }
            edges.refused(Edges.USED, -1, "sheet", 4, 0, n);
            edges.refused(Edges.USED, -1, "sheet", -1, 0, n);
            edges.refused(Edges.USED, -1, "sheet", 0, 3, n);
            edges.refused(Edges.USED, -1, "sheet", 0, -1, n);
        }
    }

    /** "A SHEET is a new row of CELLS 0" */
    private static void newRowOfZeros() {
        for (int lane = 0; lane <= 2; lane++) {
            // -1, 0, 1 come to CODES 0, 1, 2.
            VoltNumbers fine = check.told("bits 3;unit 1;lean 1;");
            fine.sheet(0, lane, 64);
            check.due("64 alike", fine.wave(0, lane, 0, 64, 0), 1);
            check.due("and each is 0", fine.wave(0, lane, 0, 64, 1), 1);
        }
        VoltNumbers x = new VoltNumbers();
        for (int k = 0; k <= 3; k++) {
            x.sheet(k, 2, 64);
            for (int cell = 0; cell < 64; cell++) {
                x.lay(k, cell, 16);
            }
            check.due("all laid", x.wave(k, 2, 0, 64, 1), 1);
            check.due("new", x.sheet(k, 1, 64), 1);
            check.due("all 0", x.wave(k, 1, 0, 64, 1), 0);
            check.due("all alike", x.wave(k, 1, 0, 64, 0), 1);
            x.lay(k, 9, 16);
            check.due("shorter", x.sheet(k, 1, 3), 1);
            check.due("longer", x.sheet(k, 1, 64), 1);
            check.due("all 0 again", x.wave(k, 1, 0, 64, 0), 1);
        }
    }

    /** "BAD: k" */
    private static void layBounds() {
        for (long k : new long[] {-1, 4, Integer.MIN_VALUE, Integer.MAX_VALUE}) {
            for (long i : new long[] {-1, 0, 64}) {
                edges.refused(Edges.FRESH, -1, "lay", k, i, 33);
                edges.refused(Edges.USED, -1, "lay", k, i, 33);
            }
        }
    }

    /** "-10 less the FAULT: NULL, INDEX" */
    private static void layFaults() {
        for (long i : new long[] {-1, 0, 63, 64, Integer.MIN_VALUE, Integer.MAX_VALUE}) {
            for (int k = 0; k <= 3; k++) {
                edges.refused(Edges.FRESH, -11, "lay", k, i, 33);
            }
            edges.refused(Edges.USED, -11, "lay", 3, i, 33);
        }
        for (long i : new long[] {-1, 5, 6, Integer.MIN_VALUE, Integer.MAX_VALUE}) {
            edges.refused(Edges.USED, -12, "lay", 0, i, 33);
            edges.refused(Edges.USED, -12, "lay", 1, i, 33);
        }
        edges.refused(Edges.USED, -12, "lay", 2, 64, 33);
        edges.refused(Edges.USED, -12, "lay", 2, -1, 33);
        Supplier<VoltNumbers> empty = () -> {
            VoltNumbers x = new VoltNumbers();
            x.sheet(0, 0, 0);
            return x;
        };
        edges.refused(empty, -12, "lay", 0, 0, 33);
        edges.refused(empty, -12, "lay", 0, -1, 33);
    }

    /** The CODE that a number has when it has been laid; with a lean of 999 and a unit of 9 it tells -999 to 1296. */
    private static int codeOf(int lane, int v) {
        VoltNumbers x = check.told("bits 8;unit 9;lean 999;");
        x.sheet(1, lane, 1);
        check.due("lay(1, 0, " + v + ")", x.lay(1, 0, v), 1);
        return x.wave(1, lane, 0, 1, 1);
    }

    private static int codeOfVolt(int v) {
        return check.told("bits 8;unit 9;lean 999;").halves(v, -4);
    }

    /** "CELL i of a SHEET becomes v (its lowest bits)" */
    private static void lowestBits() {
        int[][] bytes = {
            {127, 127}, {128, -128}, {129, -127}, {255, -1}, {256, 0}, {257, 1}, {-128, -128}, {-129, 127},
            {-1, -1}, {-256, 0}, {Integer.MIN_VALUE, 0}, {Integer.MAX_VALUE, -1}, {32767, -1}, {32640, -128},
        };
        for (int[] row : bytes) {
            check.due("byte of " + row[0], codeOf(0, row[0]), codeOfVolt(row[1]));
        }
        int[][] shorts = {
            {32767, 32767}, {32768, -32768}, {65535, -1}, {65536, 0}, {65636, 100}, {-32768, -32768}, {-32769, 32767},
            {-65537, -1}, {128, 128}, {255, 255}, {Integer.MIN_VALUE, 0}, {Integer.MAX_VALUE, -1},
        };
        for (int[] row : shorts) {
            check.due("short of " + row[0], codeOf(1, row[0]), codeOfVolt(row[1]));
        }
        for (int v : new int[] {99999, -99999, 65536, 32768, 255, -1}) {
            check.due("int of " + v, codeOf(2, v), codeOfVolt(v));
        }
        check.due("greatest int", codeOf(2, Integer.MAX_VALUE), -20);
        check.due("least int", codeOf(2, Integer.MIN_VALUE), -20);
    }

    /** "BAD: k, lane, n, what" */
    private static void waveBounds() {
        edges.bounds(-1, 0, 0, 3, "wave", 0, 0, 0, 0, 0);
        edges.bounds(-1, 1, 0, 2, "wave", 2, 0, 0, 1, 0);
        edges.bounds(-1, 3, 0, 64, "wave", 0, 0, 0, 0, 0);
        edges.bounds(-1, 4, 0, 2, "wave", 0, 0, 0, 1, 0);
        // BAD comes ahead of each FAULT: nothing, another lane, no such CELL, no VOLTS.
        edges.refused(Edges.USED, -1, "wave", 3, 0, 0, 65, 0);
        edges.refused(Edges.USED, -1, "wave", 0, 1, 0, -1, 0);
        edges.refused(Edges.USED, -1, "wave", 0, 0, -1, 1, 3);
        edges.refused(Edges.USED, -1, "wave", 2, 2, 3, 1, 3);
    }

    /** "-10 less the FAULT: NULL, CAST, then CELL by CELL INDEX" */
    private static void nullCastIndex() {
        for (int lane = 0; lane <= 2; lane++) {
            for (long f : new long[] {0, -1, 64, Integer.MIN_VALUE, Integer.MAX_VALUE}) {
                for (long n : new long[] {0, 1, 64}) {
                    edges.refused(Edges.USED, -11, "wave", 3, lane, f, n, 0);
                    for (int other = 0; other <= 2; other++) {
                        if (other != lane) {
                            edges.refused(Edges.USED, -13, "wave", lane, other, f, n, 0);
                        }
                    }
                }
            }
        }
        VoltNumbers x = new VoltNumbers();
        x.sheet(0, 1, 0);
        check.due("no cells, another lane", x.wave(0, 0, 0, 0, 0), -13);
        check.due("no cells, its lane", x.wave(0, 1, 0, 0, 0), 0);
        check.due("no cells, one read", x.wave(0, 1, 0, 1, 0), -12);
    }

    /** "n (0 to 64) volts are read of a SHEET, from CELL f on" */
    private static void fromCellOn() {
        for (int what = 0; what <= 2; what++) {
            int nothing = what == 1 ? -4 : 0;
            for (int f : new int[] {0, 5, 6, -1, Integer.MIN_VALUE, Integer.MAX_VALUE}) {
                check.due("none read from " + f, Edges.USED.get().wave(0, 0, f, 0, what), nothing);
            }
            check.unlike("all of five", Edges.USED.get().wave(0, 0, 0, 5, what), -12);
            check.unlike("the last of five", Edges.USED.get().wave(0, 0, 4, 1, what), -12);
            long[][] beyond = {{0, 6}, {4, 2}, {5, 1}, {-1, 1}, {-1, 6}, {0, 64}, {Integer.MAX_VALUE, 1},
                {Integer.MAX_VALUE, 64}, {Integer.MIN_VALUE, 1}, {Integer.MIN_VALUE, 64}};
            for (long[] row : beyond) {
                edges.refused(Edges.USED, -12, "wave", 0, 0, row[0], row[1], what);
            }
        }
        VoltNumbers x = new VoltNumbers();
        x.sheet(1, 0, 64);
        x.lay(1, 63, 100);
        check.due("all of 64", x.wave(1, 0, 0, 64, 0), 2);
        check.due("all but the last", x.wave(1, 0, 0, 63, 0), 1);
        check.due("all but the first", x.wave(1, 0, 1, 63, 0), 2);
        check.due("the last", x.wave(1, 0, 63, 1, 1), 6);
        check.due("one too many", x.wave(1, 0, 1, 64, 0), -12);
    }

    /** "-20 less i: CELL f + i is no VOLTS", which are -99999 to 99999 */
    private static void noVolts() {
        int[] volts = {99999, -99999};
        int[] none = {100000, -100000, Integer.MAX_VALUE, Integer.MIN_VALUE};
        for (int cell : new int[] {0, 1, 62, 63}) {
            VoltNumbers x = new VoltNumbers();
            x.sheet(0, 2, 64);
            for (int v : volts) {
                x.lay(0, cell, v);
                check.due("cell " + cell + " of " + v, x.wave(0, 2, 0, 64, 2), v < 0 || cell == 63 ? 0 : 1);
            }
            for (int v : none) {
                x.lay(0, cell, v);
                for (int what = 0; what <= 2; what++) {
                    check.due("cell " + cell + " of " + v, x.wave(0, 2, 0, 64, what), -20 - cell);
                }
                check.due("it alone", x.wave(0, 2, cell, 1, 0), -20);
                check.due("all ahead of it", x.wave(0, 2, 0, cell, 0), cell == 0 ? 0 : 1);
                check.due("all behind it", x.wave(0, 2, cell + 1, 63 - cell, 0), cell == 63 ? 0 : 1);
            }
        }
        edges.refused(Edges.USED, -23, "wave", 2, 2, 0, 64, 0);
        edges.refused(Edges.USED, -20, "wave", 2, 2, 3, 1, 0);
    }

    /** "the first met" */
    private static void theFirstMet() {
        Supplier<VoltNumbers> maker = () -> {
            VoltNumbers x = new VoltNumbers();
            x.sheet(2, 2, 4);
            x.lay(2, 1, 100000);
            x.lay(2, 3, -100000);
            return x;
        };
        edges.refused(maker, -21, "wave", 2, 2, 0, 64, 0);
        edges.refused(maker, -21, "wave", 2, 2, 2, 64, 0);
        edges.refused(maker, -20, "wave", 2, 2, 3, 64, 0);
        edges.refused(maker, -12, "wave", 2, 2, 4, 64, 0);
        edges.refused(maker, -12, "wave", 2, 2, -1, 64, 0);
        edges.refused(maker, -13, "wave", 2, 1, 0, 64, 0);
        check.due("only CELL 2", maker.get().wave(2, 2, 2, 1, 0), 1);
    }

    private static VoltNumbers laid(int... volts) {
        VoltNumbers x = check.told("bits 2;unit 10;");
        x.sheet(0, 0, volts.length);
        for (int i = 0; i < volts.length; i++) {
            x.lay(0, i, volts[i]);
        }
        return x;
    }

    /** "how many unlike CODES came, the CODE that came most often, of several the least (1; NONE: none came)" */
    private static void codesOfAWave() {
        check.due("none: unlike", laid().wave(0, 0, 0, 0, 0), 0);
        check.due("none: most often", laid().wave(0, 0, 0, 0, 1), -4);
        check.due("one: unlike", laid(30).wave(0, 0, 0, 1, 0), 1);
        check.due("one: most often", laid(30).wave(0, 0, 0, 1, 1), 3);
        check.due("two as often, the least behind", laid(30, 10).wave(0, 0, 0, 2, 1), 1);
        check.due("two as often, the least ahead", laid(10, 30).wave(0, 0, 0, 2, 1), 1);
        check.due("the greater more often", laid(10, 30, 30).wave(0, 0, 0, 3, 1), 3);
        check.due("unlike volts, like CODES", laid(10, 19, 11).wave(0, 0, 0, 3, 0), 1);
        check.due("all four", laid(-5, 10, 20, 30, 9).wave(0, 0, 0, 5, 0), 4);
        VoltNumbers x = check.told("bits 8;unit 1;");
        x.sheet(0, 1, 64);
        for (int i = 0; i < 64; i++) {
            x.lay(0, i, 255 - i);
        }
        check.due("64 unlike", x.wave(0, 1, 0, 64, 0), 64);
        check.due("the least of 64", x.wave(0, 1, 0, 64, 1), 192);
        check.due("63 falls", x.wave(0, 1, 0, 64, 2), 63);
        check.due("asked again", x.wave(0, 1, 0, 1, 0), 1);
        check.due("the greatest CODE of all", x.wave(0, 1, 0, 1, 1), 255);
    }

    /** "how often a CODE is below the one before" */
    private static void belowTheOneBefore() {
        check.due("none", laid().wave(0, 0, 0, 0, 2), 0);
        check.due("one has none before", laid(0).wave(0, 0, 0, 1, 2), 0);
        check.due("the same", laid(15, 15).wave(0, 0, 0, 2, 2), 0);
        check.due("another volt, the same CODE", laid(19, 10).wave(0, 0, 0, 2, 2), 0);
        check.due("below", laid(20, 19).wave(0, 0, 0, 2, 2), 1);
        check.due("above", laid(19, 20).wave(0, 0, 0, 2, 2), 0);
        check.due("down, up, down", laid(30, 0, 30, 0).wave(0, 0, 0, 4, 2), 2);
        check.due("CELL f has none before", laid(30, 0, 30, 0).wave(0, 0, 1, 3, 2), 1);
    }

    /** "each weighed BY HALVES": with the lean, and by what a later text or adopt tells. */
    private static void weighedAsToldNow() {
        VoltNumbers x = laid(19);
        check.due("19", x.wave(0, 0, 0, 1, 1), 1);
        Check.tell(x, "bits 2;unit 10;lean 1;");
        check.due("19 with a lean of 1", x.wave(0, 0, 0, 1, 1), 2);
        Check.tell(x, "bits 2;unit 20;");
        check.due("19 of 20", x.wave(0, 0, 0, 1, 1), 0);
        x.measure(0, -1);
        x.measure(1, 19);
        x.measure(2, 39);
        check.due("adopt", x.adopt(), 1);
        check.due("19 with an offset of -1", x.wave(0, 0, 0, 1, 1), 1);
    }

    /** "How many: 0 CODES .. 5 CELLS of SHEET 0. BAD." */
    private static void countBounds() {
        edges.bounds(-1, 0, 0, 5, "count", 0);
    }

    /** "5 CELLS of SHEET 0 (NONE: nothing)", and each count when there is none, some, all */
    private static void countsOfAll() {
        VoltNumbers x = new VoltNumbers();
        check.due("nothing", x.count(5), -4);
        x.sheet(1, 0, 9);
        check.due("still nothing", x.count(5), -4);
        x.sheet(0, 2, 0);
        check.due("no cells", x.count(5), 0);
        x.sheet(0, 2, 64);
        check.due("all cells", x.count(5), 64);
        for (int bits = 2; bits <= 8; bits++) {
            VoltNumbers plain = check.told("bits " + bits + ";");
            check.due("codes", plain.count(0), 1 << bits);
            check.due("parts", plain.count(1), bits);
            if (bits > 2) {
                VoltNumbers top = check.told("top;bits " + bits + ";");
                check.due("codes with top", top.count(0), 1 << bits);
                check.due("parts with top", top.count(1), bits + 1);
            }
        }
        int[] used = {8, 4, 5, 3, 45, 5};
        for (int what = 0; what <= 5; what++) {
            check.due("count(" + what + ")", Edges.USED.get().count(what), used[what]);
        }
    }
}
