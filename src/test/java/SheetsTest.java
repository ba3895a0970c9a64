/** Promises 30 to 33: sheet, lay, wave, count. */
public final class SheetsTest {
    private static final Check check = new Check();

    public static void main(String[] args) {
        makingSheets();
        lowestBits();
        waves();
        faultsOfWaves();
        wrongNumbers();
        counts();
        check.finish("SheetsTest");
    }

    private static void makingSheets() {
        VoltNumbers x = new VoltNumbers();
        check.due("sheet(0, 0, 64)", x.sheet(0, 0, 64), 1);
        check.due("cells", x.count(5), 64);
        check.due("lay(0, 63, 100)", x.lay(0, 63, 100), 1);
        check.due("lay(0, 64, 0)", x.lay(0, 64, 0), -12);
        check.due("lay(0, -1, 0)", x.lay(0, -1, 0), -12);
        check.due("a size below 0", x.sheet(0, 1, -1), -14);
        check.due("it stays", x.wave(0, 0, 63, 1, 1), 6);
        check.due("anew", x.sheet(0, 0, 64), 1);
        check.due("its cells are 0", x.wave(0, 0, 0, 64, 0), 1);
        check.due("no cells", x.sheet(0, 2, 0), 1);
        check.due("count of none", x.count(5), 0);
        check.due("lay in none", x.lay(0, 0, 0), -12);
        check.due("nothing", x.lay(1, 0, 0), -11);
        check.due("nothing has no index", x.lay(1, -1, 0), -11);
    }

    private static void lowestBits() {
        VoltNumbers x = new VoltNumbers();
        x.sheet(0, 0, 2);
        x.lay(0, 0, 256 + 100);
        check.due("100 as a byte", x.wave(0, 0, 0, 1, 1), 6);
        x.lay(0, 0, 200);
        check.due("200 is below 0 as a byte", x.wave(0, 0, 0, 1, 1), 0);
        x.sheet(1, 1, 2);
        x.lay(1, 1, 200);
        check.due("200 as a short", x.wave(1, 1, 1, 1, 1), 12);
        x.lay(1, 1, 65536 + 50);
        check.due("50 as a short", x.wave(1, 1, 1, 1, 1), 3);
        x.lay(1, 1, 40000);
        check.due("40000 is below 0 as a short", x.wave(1, 1, 1, 1, 1), 0);
        x.sheet(2, 2, 1);
        x.lay(2, 0, 65536);
        check.due("65536 as an int", x.wave(2, 2, 0, 1, 1), 15);
    }

    private static void waves() {
        VoltNumbers x = check.told("lean 1;");
        x.sheet(3, 1, 8);
        int[] volts = {47, 48, 15, 14, 160, 33, 33, 15};
        for (int i = 0; i < volts.length; i++) {
            check.due("lay", x.lay(3, i, volts[i]), 1);
        }
        // CODES 3 3 1 0 10 2 2 1.
        check.due("unlike", x.wave(3, 1, 0, 8, 0), 5);
        check.due("most often, the least", x.wave(3, 1, 0, 8, 1), 1);
        check.due("below the one before", x.wave(3, 1, 0, 8, 2), 4);
        check.due("a part: unlike", x.wave(3, 1, 4, 3, 0), 2);
        check.due("a part: most often", x.wave(3, 1, 4, 3, 1), 2);
        check.due("a part: below", x.wave(3, 1, 5, 2, 2), 0);
        check.due("no volts: unlike", x.wave(3, 1, 0, 0, 0), 0);
        check.due("no volts: most often", x.wave(3, 1, 0, 0, 1), -4);
        check.due("no volts: below", x.wave(3, 1, 0, 0, 2), 0);
    }

    private static void faultsOfWaves() {
        VoltNumbers x = new VoltNumbers();
        x.sheet(0, 2, 4);
        check.due("nothing", x.wave(1, 0, 0, 0, 0), -11);
        check.due("another lane", x.wave(0, 1, 0, 0, 0), -13);
        check.due("another lane ahead of an index", x.wave(0, 0, -5, 64, 0), -13);
        check.due("beyond the end", x.wave(0, 2, 0, 5, 0), -12);
        check.due("ahead of the beginning", x.wave(0, 2, -1, 2, 0), -12);
        check.due("greatest index", x.wave(0, 2, Integer.MAX_VALUE, 64, 0), -12);
        check.due("least index", x.wave(0, 2, Integer.MIN_VALUE, 64, 0), -12);
        check.due("nothing read, no index", x.wave(0, 2, -1, 0, 0), 0);
        x.lay(0, 2, -100000);
        check.due("no volts", x.wave(0, 2, 1, 3, 0), -21);
        check.due("no volts ahead of an index", x.wave(0, 2, 0, 64, 0), -22);
        check.due("an index ahead of no volts", x.wave(0, 2, -1, 64, 0), -12);
        check.due("not read", x.wave(0, 2, 0, 2, 0), 1);
        x.lay(0, 2, -99999);
        check.due("volts", x.wave(0, 2, 0, 4, 0), 1);
    }

    private static void wrongNumbers() {
        VoltNumbers x = new VoltNumbers();
        int[] badSheets = {-1, 4, Integer.MAX_VALUE, Integer.MIN_VALUE};
        for (int k : badSheets) {
            check.due("sheet(" + k + ")", x.sheet(k, 0, 1), -1);
            check.due("sheet(" + k + ") below 0", x.sheet(k, 0, -1), -1);
            check.due("lay(" + k + ")", x.lay(k, 0, 0), -1);
            check.due("wave(" + k + ")", x.wave(k, 0, 0, 0, 0), -1);
        }
        check.due("lane -1", x.sheet(0, -1, 1), -1);
        check.due("lane 3, size below 0", x.sheet(0, 3, -1), -1);
        check.due("65 cells", x.sheet(0, 0, 65), -1);
        check.due("still nothing", x.count(5), -4);
        check.due("wave lane -1", x.wave(0, -1, 0, 0, 0), -1);
        check.due("wave lane 3", x.wave(0, 3, 0, 0, 0), -1);
        check.due("wave n -1", x.wave(0, 0, 0, -1, 0), -1);
        check.due("wave n 65", x.wave(0, 0, 0, 65, 0), -1);
        check.due("wave what -1", x.wave(0, 0, 0, 0, -1), -1);
        check.due("wave what 3", x.wave(0, 0, 0, 0, 3), -1);
    }

    private static void counts() {
        VoltNumbers x = check.told("bits 8; top;");
        x.feed(0);
        x.stick(3, 0);
        x.stick(4, 1);
        x.measure(255, 0);
        x.sheet(0, 0, 5);
        x.sheet(1, 0, 7);
        int[] due = {256, 9, 1, 2, 8, 5};
        for (int what = 0; what < due.length; what++) {
            check.due("count(" + what + ")", x.count(what), due[what]);
        }
        check.due("count(-1)", x.count(-1), -1);
        check.due("count(6)", x.count(6), -1);
    }
}
