/** The edges that the document names for the text, sentence by sentence: 1, promises 1 to 6. */
public final class EdgesTextTest {
    private static final Check check = new Check();
    private static final Edges edges = new Edges(check);

    public static void main(String[] args) {
        atFirst();
        tapeHas200Bytes();
        highestByteFirst();
        endKeepsTheFirst();
        textIsEmptyThen();
        textCountsLines();
        textTellsAll();
        faultOfTheLatest();
        ruleBounds();
        missOfNoPart();
        bitsLine();
        unitLine();
        missLine();
        signedLine("offset", 2);
        signedLine("lean", 4);
        topLine();
        stringLine();
        refLine();
        everyByteAlone();
        tokensAsLongAsMayBe();
        blanksBetween();
        figuresOneToThree();
        tokensThatCanNotStandThere();
        namesThatBeginNoLine();
        theEndIsTheLength();
        toldAlready();
        aTokenIsReadWhenTheOneBeforeHasBeenTaken();
        behindAll();
        nothingBehindTheTape();
        usedFor512Calls();
        check.finish("EdgesTextTest");
    }

    // ---- promise 1

    /** "As told at first; nothing MEASURED; no COMPARER STUCK; SHEETS have nothing." */
    private static void atFirst() {
        check.due("apart(0)", new VoltNumbers().apart(0), 0);
        check.due("apart(2)", new VoltNumbers().apart(2), -4);
        check.due("reckon(0)", new VoltNumbers().reckon(0), -10000000004L);
        for (int j = 1; j <= 15; j++) {
            check.due("stick(" + j + ", NONE)", new VoltNumbers().stick(j, -4), -4);
        }
        for (int k = 0; k <= 3; k++) {
            check.due("lay(" + k + ", 0, 0)", new VoltNumbers().lay(k, 0, 0), -11);
            for (int lane = 0; lane <= 2; lane++) {
                check.due("wave(" + k + ", " + lane + ")", new VoltNumbers().wave(k, lane, 0, 0, 0), -11);
            }
        }
        VoltNumbers x = new VoltNumbers();
        for (int code = 0; code <= 15; code++) {
            check.due("out(" + code + ")", x.out(code), 16 * code);
        }
        check.due("out(16)", x.out(16), -100000);
        check.due("lean 0", x.halves(16, -4), 1);
        check.due("ref 100", x.node(2, 1), 25);
        check.due("fault()", x.fault(), 0);
        check.due("the tape is empty", x.text(), 0);
    }

    // ---- promise 2

    /** "THE TAPE has 200 bytes"; "FULL: more than 200." */
    private static void tapeHas200Bytes() {
        for (int length = 0; length <= 192; length++) {
            check.due("feed behind " + length, withBytes(length).feed(0), length + 8);
        }
        for (int length = 193; length <= 200; length++) {
            int had = length;
            edges.refused(() -> withBytes(had), -3, "feed", 0x2c2c2c2c2c2c2c2cL);
            VoltNumbers x = withBytes(length);
            x.feed(0x2c2c2c2c2c2c2c2cL);
            check.due("bytes behind FULL", x.count(4), length);
            check.due("the text behind FULL", x.text(), 1);
        }
    }

    /** A tape of so many bytes that tells one line, if that finds room, at its end. */
    private static VoltNumbers withBytes(int length) {
        VoltNumbers x = new VoltNumbers();
        String line = length < 7 ? "" : "unit 5;";
        Check.put(x, " ".repeat(length - line.length()) + line);
        return x;
    }

    /** "Eight bytes come behind THE TAPE, the highest first" */
    private static void highestByteFirst() {
        VoltNumbers x = new VoltNumbers();
        check.due("'unit 23;'", x.feed(0x756e69742032333bL), 8);
        check.due("text", x.text(), 1);
        check.due("unit", x.rule(1), 23);
        long[] noTokens = {Long.MIN_VALUE, -1, 0x2c20202020202020L, 0x202020202020202cL, 0x20202020ff202020L};
        int[] places = {0, 0, 0, 7, 4};
        for (int i = 0; i < places.length; i++) {
            x.feed(noTokens[i]);
            check.due("place of the byte that is no TOKEN", x.text(), -10 - places[i]);
            check.due("fault", x.fault(), 1);
        }
    }

    // ---- promise 3

    /** "THE TAPE keeps its first n bytes: how many it had. BAD." */
    private static void endKeepsTheFirst() {
        edges.refused(Edges.FRESH, -1, "end", 1);
        edges.refused(Edges.FRESH, -1, "end", -1);
        check.due("end(0) of nothing", new VoltNumbers().end(0), 0);
        int length = Edges.USED.get().count(4);
        long[] outside = {-1, length + 1, 200, 201, Integer.MIN_VALUE, Integer.MAX_VALUE};
        for (long n : outside) {
            edges.refused(Edges.USED, -1, "end", n);
        }
        for (int n = 0; n <= length; n++) {
            VoltNumbers x = Edges.USED.get();
            check.due("end(" + n + ")", x.end(n), length);
            check.due("it keeps " + n, x.count(4), n);
            check.due("and has these", x.end(n), n);
        }
        check.due("end(200) of 200", withBytes(200).end(200), 200);
        edges.refused(() -> withBytes(200), -1, "end", 201);
        VoltNumbers x = new VoltNumbers();
        Check.put(x, "unit 234;");
        x.end(7);
        x.feed(0x3b20202020202020L);
        check.due("bytes come behind the first n", x.text(), 1);
        check.due("unit", x.rule(1), 23);
    }

    // ---- promises 4 and 5

    /** "THE TAPE (empty then)", "that which was told stays", "(Nothing is MEASURED then.)" */
    private static void textIsEmptyThen() {
        VoltNumbers x = Edges.USED.get();
        check.due("measured ahead", x.count(2), 5);
        check.due("taken", x.text(), 5);
        check.due("the tape is empty", x.count(4), 0);
        check.due("nothing is measured", x.count(2), 0);
        check.due("apart(0)", x.apart(0), 0);
        check.due("reckon", x.reckon(0), -10000000004L);
        check.due("the stuck ones are", x.count(3), 3);
        check.due("the sheets are", x.count(5), 5);
        String[] oneOfEachFault = {"bits 3; ,", "bits 3;;", "bits 1;", "top;top;", "bits 2;top;"};
        int[] places = {8, 7, 5, 4, 0};
        for (int i = 0; i < places.length; i++) {
            edges.refusedText(oneOfEachFault[i], i + 1, places[i]);
            VoltNumbers y = Edges.USED.get();
            y.end(0);
            Check.tell(y, oneOfEachFault[i]);
            check.due("the tape is empty", y.count(4), 0);
            check.due("what was measured stays", y.count(2), 5);
        }
    }

    /** "how many lines", from none to the most that find room. */
    private static void textCountsLines() {
        check.due("nothing", new VoltNumbers().text(), 0);
        check.due("blanks", Check.tell(new VoltNumbers(), " ".repeat(200)), 0);
        check.due("one line", Check.tell(new VoltNumbers(), "top;"), 1);
        StringBuilder most = new StringBuilder("top;bits8;unit1;ref1;lean0;offset0;");
        for (int part = 0; part <= 8; part++) {
            most.append("miss").append(part).append("-1;");
        }
        for (int resistor = 0; resistor <= 8; resistor++) {
            most.append("string").append(resistor).append("-1;");
        }
        check.due("24 lines", Check.tell(new VoltNumbers(), most.toString()), 24);
    }

    /** "A text that is taken tells all, in place of what there was." */
    private static void textTellsAll() {
        String all = "bits 8;unit 99;top;offset 7;lean -7;ref 7;miss 0 7;miss 8 7;string 0 7;string 15 7;";
        String[] nothing = {"", "   ", "ref 100;", "bits 4;unit 16;offset 0;lean - 0;"};
        for (String text : nothing) {
            VoltNumbers x = check.told(all);
            Check.tell(x, text);
            int[] first = {4, 16, 0, 0, 0, 100};
            for (int what = 0; what <= 5; what++) {
                check.due("rule(" + what + ") behind '" + text + "'", x.rule(what), first[what]);
            }
            Check.tell(x, "bits 8;top;");
            check.due("miss 0", x.rule(10), 0);
            check.due("miss 8", x.rule(18), 0);
            check.due("resistor 0", x.rule(30), 10);
            check.due("resistor 15", x.rule(45), 10);
            check.due("out(255)", x.out(255), 255 * 16);
        }
    }

    /** "The FAULT of the latest text(); 0." */
    private static void faultOfTheLatest() {
        VoltNumbers x = new VoltNumbers();
        String[] texts = {"bits 1;", ",", "top;", ";", "bits 2;top;", "", "top;top;", "ref 5;"};
        int[] faults = {3, 1, 0, 2, 5, 0, 4, 0};
        for (int i = 0; i < faults.length; i++) {
            int before = x.fault();
            Check.put(x, texts[i]);
            check.due("not before it is told", x.fault(), before);
            x.text();
            check.due("fault of '" + texts[i] + "'", x.fault(), faults[i]);
            x.end(-1);
            x.adopt();
            check.due("still", x.fault(), faults[i]);
        }
    }

    // ---- promise 6

    /** "0 BITS .. 5 ref; 10 and i: MISS (0 to 8), 30 and i: RESISTOR i. BAD -1000." */
    private static void ruleBounds() {
        int[][] taken = {{0, 5}, {10, 18}, {30, 45}};
        for (int[] row : taken) {
            edges.bounds(-1000, 0, row[0], row[1], "rule", 0);
        }
        for (int what = -40; what <= 90; what++) {
            boolean known = what >= 0 && what <= 5 || what >= 10 && what <= 18 || what >= 30 && what <= 45;
            if (!known) {
                check.due("rule(" + what + ")", new VoltNumbers().rule(what), -1000);
            }
        }
    }

    /** "MISS of PART i (0 to 8; 0: there is no such PART)" */
    private static void missOfNoPart() {
        StringBuilder misses = new StringBuilder();
        for (int part = 0; part <= 8; part++) {
            misses.append("miss ").append(part).append(" 5").append(part).append(";");
        }
        for (int bits = 2; bits <= 8; bits++) {
            for (int top = 0; top <= (bits == 2 ? 0 : 1); top++) {
                VoltNumbers x = check.told("bits " + bits + ";" + (top == 1 ? "top;" : "") + misses);
                for (int part = 0; part <= 8; part++) {
                    int due = part < bits + top ? 50 + part : 0;
                    check.due("miss " + part + " of " + bits + ", " + top, x.rule(10 + part), due);
                }
            }
        }
    }

    // ---- 1, the lines

    /** The text is taken, as so many lines, and a rule holds then. */
    private static void taken(String text, int what, int value) {
        VoltNumbers x = new VoltNumbers();
        check.due("lines of '" + text + "'", Check.tell(x, text), text.length() - text.replace(";", "").length());
        check.due("fault of '" + text + "'", x.fault(), 0);
        check.due("rule(" + what + ") of '" + text + "'", x.rule(what), value);
    }

    /** "BITS n (2 to 8; 4 at first)" */
    private static void bitsLine() {
        for (int bits = 2; bits <= 8; bits++) {
            taken("bits " + bits + ";", 0, bits);
        }
        taken("", 0, 4);
        for (int bits : new int[] {0, 1, 9, 10, 99, 100, 999}) {
            edges.refusedText("bits " + bits + ";", 3, 5);
        }
    }

    /** "UNIT (1 to 99; 16 at first)" */
    private static void unitLine() {
        taken("unit 1;", 1, 1);
        taken("unit 99;", 1, 99);
        taken("", 1, 16);
        edges.refusedText("unit 0;", 3, 5);
        edges.refusedText("unit 100;", 3, 5);
        edges.refusedText("unit 999;", 3, 5);
    }

    /** "MISS (-999 to 999; 0 at first)", "miss: of a PART (0 to 8)" */
    private static void missLine() {
        for (int part = 0; part <= 8; part++) {
            for (int miss : new int[] {-999, -1, 0, 1, 999}) {
                VoltNumbers x = check.told("bits 8;top;miss " + part + " " + miss + ";");
                for (int other = 0; other <= 8; other++) {
                    check.due("miss " + other, x.rule(10 + other), other == part ? miss : 0);
                }
            }
        }
        edges.refusedText("miss 9 0;", 3, 5);
        edges.refusedText("miss 999 0;", 3, 5);
        edges.refusedText("miss - 1 0;", 2, 5);
        edges.refusedText("miss 0 1000;", 1, 7);
        edges.refusedText("miss 0 -1000;", 1, 8);
        edges.refusedText("miss 0 - 1000;", 1, 9);
    }

    /** "OFFSET (-999 to 999; 0)", "lean: of the COMPARER (-999 to 999; 0, if it is not told)" */
    private static void signedLine(String name, int what) {
        for (int value : new int[] {-999, -1, 0, 1, 999}) {
            taken(name + " " + value + ";", what, value);
        }
        taken(name + " - 0;", what, 0);
        taken("top;", what, 0);
        int behind = name.length() + 1;
        edges.refusedText(name + " 1000;", 1, behind);
        edges.refusedText(name + " -1000;", 1, behind + 1);
        edges.refusedText(name + " - - 1;", 2, behind + 2);
    }

    /** "TOP (not at first; n 3 or more)" */
    private static void topLine() {
        taken("", 3, 0);
        taken("top;", 3, 1);
        for (int bits = 3; bits <= 8; bits++) {
            taken("bits " + bits + ";top;", 3, 1);
            taken("top;bits " + bits + ";", 3, 1);
        }
        taken("bits 2;", 3, 0);
        edges.refusedText("bits 2;top;", 5, 0);
        edges.refusedText("  top;unit 3;bits 2;ref 9;", 5, 0);
    }

    /** "string: RESISTOR (0 to 15): 10 and that many more (-9 to 89; 0, if it is not told)" */
    private static void stringLine() {
        for (int resistor = 0; resistor <= 15; resistor++) {
            for (int more : new int[] {-9, -1, 0, 1, 89}) {
                VoltNumbers x = check.told("string " + resistor + " " + more + ";");
                for (int other = 0; other <= 15; other++) {
                    check.due("resistor " + other, x.rule(30 + other), other == resistor ? 10 + more : 10);
                }
            }
        }
        edges.refusedText("string 16 0;", 3, 7);
        edges.refusedText("string 999 0;", 3, 7);
        edges.refusedText("string - 1 0;", 2, 7);
        edges.refusedText("string 15 90;", 3, 10);
        edges.refusedText("string 15 999;", 3, 10);
        edges.refusedText("string 0 -10;", 3, 10);
        edges.refusedText("string 0 -999;", 3, 10);
        edges.refusedText("string 0 - 10;", 3, 11);
    }

    /** "ref: 1 to 999 (100)" */
    private static void refLine() {
        taken("ref 1;", 5, 1);
        taken("ref 999;", 5, 999);
        taken("", 5, 100);
        edges.refusedText("ref 0;", 3, 4);
        edges.refusedText("ref 000;", 3, 4);
        edges.refusedText("ref 1000;", 1, 4);
    }

    // ---- 1, the tokens

    /** "NAMES (a .. z), NUMBERS, one of - ; ." and "blanks (32)": what each byte is. */
    private static void everyByteAlone() {
        for (int b = 0; b <= 255; b++) {
            VoltNumbers x = new VoltNumbers();
            boolean token = b >= 'a' && b <= 'z' || b >= '0' && b <= '9' || b == '-' || b == ';';
            check.due("text of byte " + b, Check.tell(x, "" + (char) b), b == 32 ? 0 : -10);
            check.due("fault of byte " + b, x.fault(), b == 32 ? 0 : token ? 2 : 1);
            if (b != 32) {
                // Behind a NAME a letter makes it longer; no other byte can. A figure (but 0) is taken there.
                boolean letter = b >= 'a' && b <= 'z';
                int place = letter ? 0 : b >= '1' && b <= '9' ? 5 : 4;
                check.due("text of 'unit' and byte " + b, Check.tell(x, "unit" + (char) b), -10 - place);
            }
        }
    }

    /** "each as long as may be" */
    private static void tokensAsLongAsMayBe() {
        taken("bits3;unit9;", 0, 3);
        taken("string10 5;", 40, 15);
        taken("miss1-5;", 11, -5);
        edges.refusedText("bitsunit 3;", 2, 0);
        edges.refusedText("topp;", 2, 0);
        edges.refusedText("to p;", 2, 0);
        edges.refusedText("unit 1 2;", 2, 7);
    }

    /** "blanks (32) between" */
    private static void blanksBetween() {
        taken("   miss   1   -   5   ;   ", 11, -5);
        taken("lean-5;", 4, -5);
        taken("ref 5;" + " ".repeat(194), 5, 5);
        taken(" ".repeat(194) + "ref 5;", 5, 5);
        for (int b : new int[] {0, 9, 10, 13, 31, 33, 127, 128, 160, 255}) {
            edges.refusedText("ref" + (char) b + "5;", 1, 3);
        }
    }

    /** "NUMBERS (1 to 3 figures)", "a NUMBER that is too long (its first byte)" */
    private static void figuresOneToThree() {
        taken("unit 7;", 1, 7);
        taken("unit 07;", 1, 7);
        taken("unit 007;", 1, 7);
        taken("miss 001 -005;", 11, -5);
        edges.refusedText("unit 0007;", 1, 5);
        edges.refusedText("  unit   0000000000000007 ;", 1, 9);
        edges.refusedText("miss 0001 5;", 1, 5);
        edges.refusedText("1234", 1, 0);
        edges.refusedText("bits 3 1234", 1, 7);
    }

    // ---- 1, the faults

    /** The lines as the document writes them; a # stands for a NUMBER, a ? for a minus that may stand. */
    private static final String[] LINES = {
        "bits # ;", "unit # ;", "miss # ? # ;", "offset ? # ;", "top ;", "lean ? # ;", "string # ? # ;", "ref # ;",
    };

    /** "2 a TOKEN that can not stand there": each kind of TOKEN in each place of each line. */
    private static void tokensThatCanNotStandThere() {
        String[] kinds = {"volt", "bits", "5", "-", ";", ""};
        for (String line : LINES) {
            String[] tokens = line.split(" ");
            String ahead = tokens[0];
            for (int i = 1; i < tokens.length; i++) {
                String may = tokens[i].equals("?") ? "-#" : tokens[i];
                for (String kind : kinds) {
                    boolean stands = kind.equals("5") ? may.contains("#") : !kind.isEmpty() && may.contains(kind);
                    if (!stands) {
                        String text = ahead + "  " + kind;
                        edges.refusedText(text, 2, text.length() - kind.length());
                    }
                }
                edges.refusedText(ahead + "  ,", 1, ahead.length() + 2);
                edges.refusedText(ahead + "  1000", 1, ahead.length() + 2);
                ahead += " " + tokens[i].replace('#', '5').replace('?', '-');
            }
            edges.refusedText(ahead + "  5", 2, ahead.length() + 2);
            edges.refusedText(ahead + "  -", 2, ahead.length() + 2);
            edges.refusedText(ahead + "  ;", 2, ahead.length() + 2);
        }
    }

    /** "(a NAME that begins no line" */
    private static void namesThatBeginNoLine() {
        String[] names = {"a", "z", "bit", "bitss", "uni", "units", "mis", "misss", "offse", "offsets", "to", "tops",
            "lea", "leans", "strin", "strings", "re", "refs", "volt", "bats", "xits", "bitz"};
        for (String name : names) {
            edges.refusedText(name + " 3;", 2, 0);
            edges.refusedText("ref 9; " + name + " 3;", 2, 7);
        }
    }

    /** "or the end: the length)" */
    private static void theEndIsTheLength() {
        edges.refusedText("bits", 2, 4);
        edges.refusedText("bits 3", 2, 6);
        edges.refusedText("bits 3" + " ".repeat(20), 2, 26);
        edges.refusedText("bits 3" + " ".repeat(194), 2, 200);
        edges.refusedText(" ".repeat(197) + "top", 2, 200);
        edges.refusedText(" ".repeat(199) + ",", 1, 199);
        edges.refusedText(" ".repeat(199) + "z", 2, 199);
    }

    /** "4 what is told already (its NAME; miss, string: the PART, the RESISTOR, behind 3)" */
    private static void toldAlready() {
        String[] once = {"bits 3;", "unit 9;", "offset -1;", "lean - 1;", "ref 1;", "top;"};
        for (String line : once) {
            edges.refusedText(line + line, 4, line.length());
            edges.refusedText(line + "miss 0 1; " + line, 4, line.length() + 10);
        }
        for (String line : once) {
            for (String other : once) {
                if (!other.equals(line)) {
                    edges.refusedText(line + other + line, 4, line.length() + other.length());
                }
            }
        }
        edges.refusedText("miss 0 0;miss 1 0;miss 0 0;", 4, 23);
        edges.refusedText("miss 8 0;miss 0 0;miss 8 0;", 4, 23);
        edges.refusedText("string 0 0;string 1 0;string 0 0;", 4, 29);
        edges.refusedText("string 15 0;string 1 0;string 15 0;", 4, 30);
        for (int part = 0; part <= 8; part++) {
            edges.refusedText("miss " + part + " 0;miss " + part + " 5;", 4, 14);
            edges.refusedText("miss " + part + " 0;miss 00" + part + " 5;", 4, 14);
        }
        for (int resistor = 0; resistor <= 15; resistor++) {
            String line = "string " + resistor + " 0;";
            edges.refusedText(line + line, 4, line.length() + 7);
        }
        edges.refusedText("miss 8 0;miss 9 0;", 3, 14);
        edges.refusedText("string 15 0;string 16 0;", 3, 19);
        check.due("a PART is no RESISTOR", Check.tell(new VoltNumbers(), "miss 5 0;string 5 0;"), 2);
        VoltNumbers x = check.told("bits 3;miss 1 1;string 1 1;");
        check.due("told in an earlier text", Check.tell(x, "bits 3;miss 1 1;string 1 1;"), 3);
        Check.tell(x, "bits 3;miss 1 1;string 1 1;,");
        check.due("told in a refused text", Check.tell(x, "bits 3;miss 1 1;string 1 1;"), 3);
    }

    /** "the first met as it is read (a TOKEN is read when the one before has been taken)" */
    private static void aTokenIsReadWhenTheOneBeforeHasBeenTaken() {
        edges.refusedText("volt ,", 2, 0);
        edges.refusedText("bits ; ,", 2, 5);
        edges.refusedText("bits 9 ,", 3, 5);
        edges.refusedText("bits 9", 3, 5);
        edges.refusedText("miss 9 ,", 3, 5);
        edges.refusedText("string 1 90 ,", 3, 9);
        edges.refusedText("top;top ,", 4, 4);
        edges.refusedText("bits 3;bits 9;", 4, 7);
        edges.refusedText("bits 3;bits", 4, 7);
        edges.refusedText("miss 1 0;miss 1 ,", 4, 14);
        edges.refusedText("miss 1 0;miss 1", 4, 14);
        edges.refusedText("string 1 0;string 1 90;", 4, 18);
        edges.refusedText("bits 3 ,;unit 0;", 1, 7);
        edges.refusedText("bits 3;unit 0;,", 3, 12);
        edges.refusedText("miss 1 , miss", 1, 7);
        // The one behind the RESISTOR is not looked at, nor a NUMBER of an earlier line in its place.
        edges.refusedText("unit 99;string ;", 2, 15);
        edges.refusedText("unit 99;string", 2, 14);
        edges.refusedText("unit 99;string ,", 1, 15);
    }

    /** "Behind all: 5 top with BITS 2 (place 0)." */
    private static void behindAll() {
        edges.refusedText("bits 2;top;", 5, 0);
        edges.refusedText("bits 2;top;,", 1, 11);
        edges.refusedText("bits 2;top;ref", 2, 14);
        edges.refusedText("bits 2;top;ref 0;", 3, 15);
        edges.refusedText("bits 2;top;top;", 4, 11);
        edges.refusedText("bits 2;top", 2, 10);
    }

    /** "THE TAPE keeps its first n bytes": what stood behind these is not read. */
    private static void nothingBehindTheTape() {
        VoltNumbers x = new VoltNumbers();
        Check.put(x, "unit 23;");
        x.end(6);
        check.due("'unit 2'", x.text(), -16);
        check.due("the end", x.fault(), 2);
        Check.put(x, "unit 7;,,,,");
        x.end(7);
        check.due("'unit 7;'", x.text(), 1);
        Check.put(x, "ref 100;");
        x.end(6);
        x.feed(0x3b20202020202020L);
        check.due("'ref 10;'", x.text(), 1);
        check.due("ref", x.rule(5), 10);
        Check.put(x, "top;" + ",".repeat(196));
        x.end(0);
        check.due("nothing", x.text(), 0);
    }

    /** "An object is used for at most 512 calls": the last of them is as good as the first. */
    private static void usedFor512Calls() {
        VoltNumbers x = new VoltNumbers();
        for (int call = 1; call <= 510; call++) {
            check.due("call " + call, x.sheet(call % 4, call % 3, 64), 1);
        }
        check.due("call 511", x.lay(2, 63, 99), 1);
        check.due("call 512: sheet 2 was made by call 510, of bytes", x.wave(2, 0, 63, 1, 1), 6);
    }
}
