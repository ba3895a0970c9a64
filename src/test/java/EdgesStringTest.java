/** The edges that the document names for many comparers at once: 2, promises 17 to 20. */
public final class EdgesStringTest {
    private static final Check check = new Check();
    private static final Edges edges = new Edges(check);

    public static void main(String[] args) {
        stickBounds();
        whatItWas();
        stuckBeyondTheString();
        stringBounds();
        orMore();
        greatestNumbers();
        noneAndAllSayOne();
        bubblesAndEdge();
        nodeBounds();
        leastVolt();
        stuckOrNot();
        stringsBounds();
        fromZeroToRef();
        asIfAllWereAlike();
        check.finish("EdgesStringTest");
    }

    /** "COMPARER j (1 to 15) is STUCK at 0, 1, or not (NONE)", "BAD" */
    private static void stickBounds() {
        for (long at : new long[] {-4, 0, 1}) {
            for (long j : new long[] {0, 16, -1, Integer.MIN_VALUE, Integer.MAX_VALUE}) {
                edges.refused(Edges.FRESH, -1, "stick", j, at);
                edges.refused(Edges.USED, -1, "stick", j, at);
            }
        }
        for (long at : new long[] {-1, 2, -2, -3, -5, Integer.MIN_VALUE, Integer.MAX_VALUE}) {
            for (long j : new long[] {1, 3, 5, 15}) {
                edges.refused(Edges.FRESH, -1, "stick", j, at);
                edges.refused(Edges.USED, -1, "stick", j, at);
            }
        }
    }

    /** "what it was" */
    private static void whatItWas() {
        int[] row = {0, 0, 1, 1, -4, -4, 1, -4, 0, -4};
        for (int j = 1; j <= 15; j++) {
            VoltNumbers x = new VoltNumbers();
            int was = -4;
            for (int at : row) {
                check.due("stick(" + j + ", " + at + ")", x.stick(j, at), was);
                check.due("stuck ones", x.count(3), at == -4 ? 0 : 1);
                was = at;
            }
        }
        VoltNumbers x = new VoltNumbers();
        for (int j = 1; j <= 15; j++) {
            check.due("stick(" + j + ")", x.stick(j, j % 2), -4);
            check.due("stuck ones", x.count(3), j);
        }
    }

    /** "COMPARER j (1 to 2 to the m less 1)": those beyond say nothing. */
    private static void stuckBeyondTheString() {
        int[][] lasts = {{2, 3}, {3, 7}, {4, 15}};
        for (int[] row : lasts) {
            VoltNumbers x = new VoltNumbers();
            x.stick(row[1], 1);
            check.due("the last of " + row[0], x.string(row[0], -99999, 0), 1 << row[1] - 1);
            if (row[0] < 4) {
                VoltNumbers y = new VoltNumbers();
                y.stick(row[1] + 1, 1);
                check.due("the first beyond " + row[0], y.string(row[0], -99999, 0), 0);
                check.due("it is not counted", y.string(row[0], -99999, 1), 0);
                check.due("it makes no bubble", y.string(row[0], -99999, 3), 0);
                check.due("but in a longer one", y.string(row[0] + 1, -99999, 0), 1 << row[1]);
            }
        }
    }

    /** "THE STRING: m BITS (2 to 4) of it"; a volt; "what 0 .. BUBBLES (3). BAD." */
    private static void stringBounds() {
        edges.bounds(-1, 0, 2, 4, "string", 0, 50, 0);
        edges.bounds(-1, 2, 0, 3, "string", 3, 50, 0);
        for (int m = 2; m <= 4; m++) {
            edges.volts(-1, 1, "string", m, 0, 1);
        }
    }

    /** "it says 1, if the volt times all RESISTORS is ref times those below the node or more" */
    private static void orMore() {
        VoltNumbers x = new VoltNumbers();
        int[] volts = {24, 25, 26, 49, 50, 74, 75, 76};
        int[] words = {0, 1, 1, 1, 3, 3, 7, 7};
        for (int i = 0; i < volts.length; i++) {
            check.due("string(2, " + volts[i] + ", 0)", x.string(2, volts[i], 0), words[i]);
        }
        // RESISTORS 1, 99, 10, 10 of 120, ref 12: nodes at a tenth, at 10 and at 11.
        VoltNumbers y = check.told("string 0 -9;string 1 89;ref 12;");
        int[] more = {0, 1, 9, 10, 11};
        int[] say = {0, 1, 1, 3, 7};
        for (int i = 0; i < more.length; i++) {
            check.due("string(2, " + more[i] + ", 0)", y.string(2, more[i], 0), say[i]);
        }
        check.due("0 is no more than 0", y.string(2, 0, 1), 0);
        check.due("below 0", y.string(2, -1, 1), 0);
    }

    /** All RESISTORS at their bounds, ref too, and the greatest and least volts. */
    private static void greatestNumbers() {
        VoltNumbers x = check.told(resistors(89) + "string15-9;ref 999;");
        check.due("all 99 but the last of 1", x.node(4, 15), 999);
        check.due("the first of these", x.node(4, 1), 67);
        check.due("998", x.string(4, 998, 1), 14);
        check.due("999", x.string(4, 999, 1), 15);
        check.due("99999", x.string(4, 99999, 0), 32767);
        check.due("-99999", x.string(4, -99999, 0), 0);
        VoltNumbers y = check.told(resistors(-9) + "string15 89;ref 999;");
        check.due("all 1 but the last of 99", y.node(4, 15), 132);
        check.due("the first of these", y.node(4, 1), 9);
        check.due("131", y.string(4, 131, 1), 14);
        check.due("132", y.string(4, 132, 1), 15);
    }

    private static String resistors(int more) {
        StringBuilder text = new StringBuilder();
        for (int i = 0; i < 15; i++) {
            text.append("string").append(i).append(more < 0 ? "" : " ").append(more).append(";");
        }
        return text.toString();
    }

    /** "COUNT: how many say 1; EDGE: .. from COMPARER 1 on without a gap" */
    private static void noneAndAllSayOne() {
        for (int m = 2; m <= 4; m++) {
            int all = (1 << m) - 1;
            VoltNumbers x = new VoltNumbers();
            for (int what = 0; what <= 3; what++) {
                check.due("none: string(" + m + ", 0, " + what + ")", x.string(m, 0, what), 0);
            }
            int[] due = {(1 << all) - 1, all, all, 0};
            for (int what = 0; what <= 3; what++) {
                check.due("all: string(" + m + ", 100, " + what + ")", x.string(m, 100, what), due[what]);
            }
        }
    }

    private static void says(String when, VoltNumbers x, int[] due) {
        for (int what = 0; what <= 3; what++) {
            check.due(when + ": string(4, 0, " + what + ")", x.string(4, 0, what), due[what]);
        }
    }

    /** "BUBBLES: pairs of neighbours of which the lower says 0, the upper 1" */
    private static void bubblesAndEdge() {
        for (int j = 1; j <= 15; j++) {
            VoltNumbers x = new VoltNumbers();
            x.stick(j, 1);
            says("only " + j, x, new int[] {1 << j - 1, 1, j == 1 ? 1 : 0, j == 1 ? 0 : 1});
            VoltNumbers y = new VoltNumbers();
            y.stick(j, 0);
            check.due("all but " + j + ", edge", y.string(4, 100, 2), j - 1);
            check.due("all but " + j + ", count", y.string(4, 100, 1), 14);
            check.due("all but " + j + ", bubbles", y.string(4, 100, 3), j == 15 ? 0 : 1);
        }
        VoltNumbers even = new VoltNumbers();
        VoltNumbers odd = new VoltNumbers();
        for (int j = 1; j <= 15; j++) {
            even.stick(j, 1 - j % 2);
            odd.stick(j, j % 2);
        }
        says("2, 4 and on", even, new int[] {0b010101010101010, 7, 0, 7});
        says("1, 3 and on", odd, new int[] {0b101010101010101, 8, 1, 7});
    }

    /** "COMPARER j (1 to 2 to the m less 1)", "BAD" */
    private static void nodeBounds() {
        edges.bounds(-1, 0, 2, 4, "node", 0, 1);
        edges.bounds(-1, 1, 1, 3, "node", 2, 0);
        edges.bounds(-1, 1, 1, 7, "node", 3, 0);
        edges.bounds(-1, 1, 1, 15, "node", 4, 0);
    }

    /** "The least volt (0 or above) for which COMPARER j says 1" */
    private static void leastVolt() {
        int[] refs = {1, 2, 3, 4, 5, 16, 17, 100, 999};
        for (int ref : refs) {
            VoltNumbers x = check.told("ref " + ref + ";string 1 -9;string 2 7;");
            for (int m = 2; m <= 4; m++) {
                for (int j = 1; j < 1 << m; j++) {
                    int least = x.node(m, j);
                    check.due("at node " + j + " of " + m, x.string(m, least, 0) >> j - 1 & 1, 1);
                    check.due("one below it", x.string(m, least - 1, 0) >> j - 1 & 1, 0);
                }
            }
        }
        check.due("just a volt", new VoltNumbers().node(2, 1), 25);
        check.due("just above a volt", check.told("ref 101;").node(2, 1), 26);
        check.due("just below a volt", check.told("ref 99;").node(2, 1), 25);
        check.due("ref 1, the first", check.told("ref 1;").node(4, 1), 1);
        check.due("ref 1, the last", check.told("ref 1;").node(4, 15), 1);
    }

    /** "(STUCK or not)" */
    private static void stuckOrNot() {
        for (int at = 0; at <= 1; at++) {
            VoltNumbers x = new VoltNumbers();
            for (int j = 1; j <= 15; j++) {
                x.stick(j, at);
            }
            check.due("stuck at " + at, x.node(2, 3), 75);
            check.due("stuck at " + at, x.node(4, 1), 7);
        }
    }

    /** "COUNT and EDGE are unlike (what 0), .. (1). BAD." */
    private static void stringsBounds() {
        edges.bounds(-1, 0, 2, 4, "strings", 0, 0);
        edges.bounds(-1, 0, 2, 4, "strings", 0, 1);
        edges.bounds(-1, 1, 0, 1, "strings", 2, 0);
        edges.bounds(-1, 1, 0, 1, "strings", 4, 0);
    }

    /** "Volts from 0 to ref": both ends are of them. */
    private static void fromZeroToRef() {
        // COMPARER 1 says 1 from volt 1 on, 2 always.
        VoltNumbers low = check.told("ref 4;");
        low.stick(2, 1);
        check.due("unlike at 0 alone", low.strings(2, 0), 1);
        // COMPARERS 2 and 3 say 1 at volt 2 alone, which is ref.
        VoltNumbers high = check.told("ref 2;string 0 89;");
        high.stick(1, 0);
        check.due("unlike at ref alone", high.strings(2, 0), 1);
        VoltNumbers lowCount = check.told("ref 4;");
        lowCount.stick(1, 1);
        check.due("one too many at 0 alone", lowCount.strings(2, 1), 1);
        VoltNumbers highCount = check.told("ref 1;");
        highCount.stick(3, 0);
        check.due("one too few at ref alone", highCount.strings(2, 1), 1);
        VoltNumbers all = check.told("ref 999;");
        all.stick(1, 0);
        all.stick(2, 1);
        check.due("all of 0 to 999", all.strings(2, 0), 1000);
    }

    /** "not volt times 2 to the m by ref, divided down (as if all were alike; 2 to the m less 1 at most)" */
    private static void asIfAllWereAlike() {
        for (int ref : new int[] {1, 2, 3, 7, 8, 15, 16, 17, 100, 998, 999}) {
            VoltNumbers x = check.told("ref " + ref + ";");
            for (int m = 2; m <= 4; m++) {
                check.due("alike, ref " + ref, x.strings(m, 0), 0);
                check.due("as if alike, ref " + ref, x.strings(m, 1), 0);
            }
        }
        // Of ref 8 COUNT would be 0 0 1 1 2 2 3 3 3; with none it is right for 0 and 1 alone.
        VoltNumbers none = check.told("ref 8;");
        VoltNumbers every = check.told("ref 8;");
        for (int j = 1; j <= 3; j++) {
            none.stick(j, 0);
            every.stick(j, 1);
        }
        check.due("none says 1", none.strings(2, 1), 7);
        check.due("every one says 1", every.strings(2, 1), 6);
        check.due("none says 1: no gap", none.strings(2, 0), 0);
        check.due("every one says 1: no gap", every.strings(2, 0), 0);
    }
}
