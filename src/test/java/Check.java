/** What the tests share: a count of wrong answers, and texts put on the tape. */
final class Check {
    private int wrong = 0;
    private int asked = 0;

    void due(String call, long got, long want) {
        asked++;
        if (got != want) {
            wrong++;
            System.out.println(call + " answered " + got + ", due is " + want);
        }
    }

    /** An answer that is taken, whatever it is. */
    void unlike(String call, long got, long bad) {
        asked++;
        if (got == bad) {
            wrong++;
            System.out.println(call + " answered " + got + ", which is a refusal");
        }
    }

    void same(String when, String got, String want) {
        asked++;
        if (!got.equals(want)) {
            wrong++;
            System.out.println(when + ": " + got + ", due is " + want);
        }
    }

    /** Puts a text on an empty tape, byte for byte. */
    static void put(VoltNumbers x, String text) {
        for (int from = 0; from < text.length(); from += 8) {
            long v = 0;
            for (int i = from; i < from + 8; i++) {
                v = v << 8 | (i < text.length() ? text.charAt(i) & 255 : 32);
            }
            x.feed(v);
        }
        x.end(text.length());
    }

    static int tell(VoltNumbers x, String text) {
        put(x, text);
        return x.text();
    }

    /** A new object that has been told a text, which must be taken. */
    VoltNumbers told(String text) {
        VoltNumbers x = new VoltNumbers();
        int lines = tell(x, text);
        if (lines < 0) {
            wrong++;
            System.out.println("'" + text + "' was refused: " + lines);
        }
        return x;
    }

    void finish(String name) {
        System.out.println(name + ": " + asked + " answers, " + wrong + " wrong");
        if (wrong != 0) {
            System.exit(1);
        }
    }
}
