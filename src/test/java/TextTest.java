/** Promises 1 to 6: a new object, feed, end, text, fault, rule. */
public final class TextTest {
    private static final Check check = new Check();

    public static void main(String[] args) {
        newObject();
        tapeFillsAndIsCut();
        textTellsAll();
        textThatIsRefusedChangesNothingElse();
        noToken();
        tokenOutOfPlace();
        numberOutOfBounds();
        toldAlready();
        firstFaultMet();
        rules();
        check.finish("TextTest");
    }

    private static void newObject() {
        VoltNumbers x = new VoltNumbers();
        int[] first = {4, 16, 0, 0, 0, 100};
        for (int what = 0; what < first.length; what++) {
            check.due("new rule(" + what + ")", x.rule(what), first[what]);
        }
        for (int i = 0; i <= 8; i++) {
            check.due("new rule(10 + " + i + ")", x.rule(10 + i), 0);
        }
        for (int i = 0; i <= 15; i++) {
            check.due("new rule(30 + " + i + ")", x.rule(30 + i), 10);
        }
        int[] counts = {16, 4, 0, 0, 0, VoltNumbers.NONE};
        for (int what = 0; what < counts.length; what++) {
            check.due("new count(" + what + ")", x.count(what), counts[what]);
        }
        check.due("new fault()", x.fault(), 0);
        for (int k = 0; k < 4; k++) {
            check.due("new lay(" + k + ", 0, 0)", x.lay(k, 0, 0), -11);
        }
    }

    private static void tapeFillsAndIsCut() {
        VoltNumbers x = new VoltNumbers();
        check.due("end(1) of nothing", x.end(1), -1);
        check.due("end(-1)", x.end(-1), -1);
        for (int i = 1; i <= 25; i++) {
            check.due("feed " + i, x.feed(0x2020202020202020L), 8 * i);
        }
        check.due("feed beyond 200", x.feed(0), -3);
        check.due("count(4) at 200", x.count(4), 200);
        check.due("end(201)", x.end(201), -1);
        check.due("end(200)", x.end(200), 200);
        check.due("end(193)", x.end(193), 200);
        check.due("feed to 201", x.feed(0), -3);
        check.due("end(192)", x.end(192), 193);
        check.due("feed to 200", x.feed(0x3b20202020202020L), 200);
        check.due("text ; at 192", x.text(), -202);
        check.due("fault", x.fault(), 2);
        check.due("the tape is empty then", x.count(4), 0);
        x.feed(0x726566203539393bL);
        check.due("'ref 599;', the highest byte first", x.text(), 1);
        check.due("ref", x.rule(5), 599);
    }

    private static void textTellsAll() {
        VoltNumbers x = new VoltNumbers();
        String all = "  bits8;unit   99;miss 0 5 ;miss 8-7;offset-999;top;lean 12;"
            + "string 15 89;string 0 -9;string 007 -0;ref 001;  ";
        check.due("all lines", Check.tell(x, all), 11);
        check.due("fault()", x.fault(), 0);
        int[] holds = {8, 99, -999, 1, 12, 1};
        for (int what = 0; what < holds.length; what++) {
            check.due("told rule(" + what + ")", x.rule(what), holds[what]);
        }
        check.due("miss 0", x.rule(10), 5);
        check.due("miss 8", x.rule(18), -7);
        check.due("resistor 0", x.rule(30), 1);
        check.due("resistor 7", x.rule(37), 10);
        check.due("resistor 15", x.rule(45), 99);
        check.due("an empty text tells what was at first", x.text(), 0);
        check.due("bits then", x.rule(0), 4);
        check.due("unit then", x.rule(1), 16);
        check.due("top then", x.rule(3), 0);
        check.due("miss then", x.rule(10), 0);
        check.due("resistor then", x.rule(45), 10);
        check.due("ref then", x.rule(5), 100);
        check.due("a text of blanks", Check.tell(x, "         "), 0);
    }

    private static void textThatIsRefusedChangesNothingElse() {
        VoltNumbers x = check.told("bits 3; unit 7; miss 1 4; string 2 5;");
        x.measure(5, 50);
        x.stick(4, 1);
        x.sheet(0, 1, 6);
        check.due("refused", Check.tell(x, "bits 5; miss 1 9; unit 4; lean 3; unit 5;"), -44);
        check.due("fault", x.fault(), 4);
        check.due("bits stay", x.rule(0), 3);
        check.due("unit stays", x.rule(1), 7);
        check.due("miss stays", x.rule(11), 4);
        check.due("lean stays", x.rule(4), 0);
        check.due("resistor stays", x.rule(32), 15);
        check.due("out stays", x.out(2), 18);
        check.due("the measured stays", x.count(2), 1);
        check.due("the tape is empty", x.count(4), 0);
        check.due("taken", Check.tell(x, "unit 6;"), 1);
        check.due("the fault is gone", x.fault(), 0);
        check.due("nothing is measured", x.count(2), 0);
        check.due("the comparer is still stuck", x.count(3), 1);
        check.due("the sheet is still there", x.count(5), 6);
    }

    private static void refused(String text, int fault, int place) {
        VoltNumbers x = new VoltNumbers();
        check.due("text '" + text + "'", Check.tell(x, text), -10 - place);
        check.due("fault of '" + text + "'", x.fault(), fault);
    }

    private static void noToken() {
        refused("Bits 3;", 1, 0);
        refused("bits 3,", 1, 6);
        refused("bits\t3;", 1, 4);
        refused("top;\n", 1, 4);
        refused("bits 3;.", 1, 7);
        refused("lean +3;", 1, 5);
        refused("bits 0003;", 1, 5);
        refused("bits 3 1234567890123;", 1, 7);
        refused("unit " + (char) 178 + ";", 1, 5);
        refused("bits 3;" + (char) 0, 1, 7);
        refused("{", 1, 0);
        refused("`", 1, 0);
        refused("unit 9:", 1, 6);
        refused("unit /", 1, 5);
    }

    private static void tokenOutOfPlace() {
        refused(";", 2, 0);
        refused(" - ;", 2, 1);
        refused("12;", 2, 0);
        refused("bit 3;", 2, 0);
        refused("bitss 3;", 2, 0);
        refused("bits;", 2, 4);
        refused("bits 3", 2, 6);
        refused("bits 3   ", 2, 9);
        refused("bits - 3;", 2, 5);
        refused("unit - 3;", 2, 5);
        refused("ref -3;", 2, 4);
        refused("bits 3 4;", 2, 7);
        refused("bits three;", 2, 5);
        refused("miss -1 2;", 2, 5);
        refused("miss 1;", 2, 6);
        refused("miss 1 - - 2;", 2, 9);
        refused("miss 1 2", 2, 8);
        refused("string 1 top;", 2, 9);
        refused("offset;", 2, 6);
        refused("lean - ", 2, 7);
        refused("top 1;", 2, 4);
        refused("top - ;", 2, 4);
        refused("topbits 3;", 2, 0);
        refused("bits 3;;", 2, 7);
    }

    private static void numberOutOfBounds() {
        refused("bits 1;", 3, 5);
        refused("bits 9;", 3, 5);
        refused("bits 000;", 3, 5);
        refused("unit 0;", 3, 5);
        refused("unit 100;", 3, 5);
        refused("ref 0;", 3, 4);
        refused("miss 9 0;", 3, 5);
        refused("string 16 0;", 3, 7);
        refused("string 1 90;", 3, 9);
        refused("string 1 - 10;", 3, 11);
        VoltNumbers x = new VoltNumbers();
        check.due("the least", Check.tell(x, "bits 2;unit 1;ref 1;miss 0 -999;offset -999;lean -999;"), 6);
        check.due("the greatest", Check.tell(x, "bits 8;unit 99;ref 999;miss 8 999;offset 999;lean 999;"), 6);
        check.due("lean", x.rule(4), 999);
    }

    private static void toldAlready() {
        String[] lines = {"bits 3;", "unit 9;", "offset 1;", "lean 1;", "ref 1;", "top;"};
        for (String line : lines) {
            refused(line + line, 4, line.length());
        }
        refused("miss 1 0;miss 1 0;", 4, 14);
        refused("string 15 0;string 15 0;", 4, 19);
        VoltNumbers x = new VoltNumbers();
        check.due("other parts, resistors", Check.tell(x, "miss 1 0;miss 2 0;string 1 0;string 2 0;"), 4);
        check.due("told anew in the next text", Check.tell(x, "miss 1 5;string 1 5;"), 2);
        check.due("miss 1", x.rule(11), 5);
    }

    private static void firstFaultMet() {
        refused("bits 9 ,", 3, 5);
        refused("bits 3;bits ,", 4, 7);
        refused("bits 3;bits 9;", 4, 7);
        refused("miss 1 0;miss 9 0;", 3, 14);
        refused("miss 1 0;miss 1 ,", 4, 14);
        refused("miss 1 0;miss 1", 4, 14);
        refused("volt ,", 2, 0);
        refused("bits 2;top;", 5, 0);
        refused("top;bits 2;", 5, 0);
        refused("bits 2;top;ref 0;", 3, 15);
        refused("bits 2;top", 2, 10);
    }

    private static void rules() {
        VoltNumbers x = check.told("bits 3; miss 2 7; miss 3 8; miss 8 9;");
        check.due("miss of part 2", x.rule(12), 7);
        check.due("there is no part 3", x.rule(13), 0);
        check.due("there is no part 8", x.rule(18), 0);
        VoltNumbers y = check.told("bits 3; top; miss 2 7; miss 3 8; miss 4 9;");
        check.due("part 3 with top", y.rule(13), 8);
        check.due("there is no part 4 with top", y.rule(14), 0);
        int[] bad = {-1, 6, 9, 19, 29, 46, Integer.MAX_VALUE, Integer.MIN_VALUE};
        for (int what : bad) {
            check.due("rule(" + what + ")", x.rule(what), -1000);
        }
    }
}
