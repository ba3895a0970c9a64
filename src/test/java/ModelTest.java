import java.util.Random;

/** Runs of calls from fixed seeds, each answer beside that of the plain model. */
public final class ModelTest {
    private static final int RUNS = 400;
    private static final int CALLS = 500;
    private static final int KINDS = 32;
    private static final Check check = new Check();

    private final Random random;
    private final VoltNumbers x = new VoltNumbers();
    private final PlainModel model = new PlainModel();
    private final int run;
    private int calls = 0;

    private ModelTest(int run) {
        this.run = run;
        random = new Random(run);
    }

    public static void main(String[] args) {
        for (int run = 0; run < RUNS; run++) {
            new ModelTest(run).go();
        }
        check.finish("ModelTest");
    }

    private void go() {
        while (calls < CALLS - 40) {
            int kind = random.nextInt(KINDS + 3);
            if (kind >= KINDS) {
                text(random.nextInt(4) == 0 ? brokenText() : goodText());
            } else if (random.nextInt(40) == 0) {
                measureAll();
            } else {
                ask(kind);
            }
        }
    }

    private int near(int low, int high) {
        int dice = random.nextInt(30);
        if (dice == 0) {
            return low - 1 - random.nextInt(3);
        }
        if (dice == 1) {
            return high + 1 + random.nextInt(3);
        }
        if (dice == 2) {
            return random.nextInt();
        }
        if (dice < 6) {
            return random.nextBoolean() ? low : high;
        }
        return low + random.nextInt(high - low + 1);
    }

    private int volt() {
        switch (random.nextInt(4)) {
            case 0: return near(-99999, 99999);
            case 1: return near(-20, 300);
            default: return (int) model.out(code()) + random.nextInt(41) - 20;
        }
    }

    private int code() {
        return random.nextInt((int) model.count(0));
    }

    private int orNone(int value) {
        return random.nextInt(3) == 0 ? -4 : value;
    }

    private void due(String call, long got, long want) {
        calls++;
        check.due("run " + run + " call " + calls + ": " + call, got, want);
    }

    private void ask(int kind) {
        int a;
        int b;
        int c;
        switch (kind) {
            case 0:
                a = near(0, 12);
                if (random.nextBoolean()) {
                    due("rule(" + a + ")", x.rule(a), model.rule(a));
                }
                a = near(0, 46);
                due("rule(" + a + ")", x.rule(a), model.rule(a));
                break;
            case 1:
                a = near(0, (int) model.count(0) - 1);
                due("out(" + a + ")", x.out(a), model.out(a));
                break;
            case 2:
                a = near(0, 1);
                due("lsb(" + a + ")", x.lsb(a), model.lsb(a));
                break;
            case 3:
                a = near(0, (int) model.count(0) - 2);
                b = near(0, 1);
                due("wide(" + a + ", " + b + ")", x.wide(a, b), model.wide(a, b));
                break;
            case 4:
                a = near(0, (int) model.count(0) - 1);
                b = near(0, 1);
                due("bent(" + a + ", " + b + ")", x.bent(a, b), model.bent(a, b));
                break;
            case 5:
                a = near(0, 1);
                b = near(0, 2);
                due("worst(" + a + ", " + b + ")", x.worst(a, b), model.worst(a, b));
                break;
            case 6:
                a = near(0, 2);
                due("back(" + a + ")", x.back(a), model.back(a));
                break;
            case 7:
                a = volt();
                due("nearest(" + a + ")", x.nearest(a), model.nearest(a));
                break;
            case 8:
                a = volt();
                b = orNone(near(0, (int) model.rule(0) - 1));
                due("halves(" + a + ", " + b + ")", x.halves(a, b), model.halves(a, b));
                break;
            case 9:
                a = near(0, 3);
                due("range(" + a + ")", x.range(a), model.range(a));
                break;
            case 10:
                a = volt();
                due("weak(" + a + ")", x.weak(a), model.weak(a));
                break;
            default:
                askMore(kind);
                break;
        }
    }

    private void askMore(int kind) {
        int a = 0;
        int b = 0;
        int c = 0;
        int d = 0;
        int e = 0;
        switch (kind) {
            case 11:
                a = near(1, 15);
                b = orNone(near(0, 1));
                due("stick(" + a + ", " + b + ")", x.stick(a, b), model.stick(a, b));
                break;
            case 12:
                a = near(2, 4);
                b = random.nextBoolean() ? near(0, (int) model.rule(5)) : volt();
                c = near(0, 3);
                due("string(" + a + ", " + b + ", " + c + ")", x.string(a, b, c), model.string(a, b, c));
                break;
            case 13:
                a = near(2, 4);
                b = near(1, a >= 2 && a <= 4 ? (1 << a) - 1 : 15);
                due("node(" + a + ", " + b + ")", x.node(a, b), model.node(a, b));
                break;
            case 14:
                a = near(2, 4);
                b = near(0, 1);
                due("strings(" + a + ", " + b + ")", x.strings(a, b), model.strings(a, b));
                break;
            case 15:
            case 16:
                a = near(1, 400);
                b = random.nextBoolean() ? near(0, 20) : near(0, 999);
                c = near(0, 99);
                d = random.nextInt(10) == 0 ? near(2, 40) : 2 * (1 + random.nextInt(20));
                e = near(0, Math.max(1, Math.min(40, d)) - 1);
                String of = a + ", " + b + ", " + c + ", " + d;
                if (kind == 15) {
                    due("slopes(" + of + ", " + e + ")", x.slopes(a, b, c, d, e), model.slopes(a, b, c, d, e));
                } else {
                    due("hum(" + of + ")", x.hum(a, b, c, d), model.hum(a, b, c, d));
                }
                break;
            case 17:
                a = near(1, 2);
                b = near(-999, 999);
                c = near(0, 400);
                d = near(1, 30);
                due("kept(" + a + ", " + b + ", " + c + ", " + d + ")", x.kept(a, b, c, d), model.kept(a, b, c, d));
                break;
            case 18:
                a = near(1, 2);
                b = near(-999, 999);
                c = near(1, 400);
                due("ones(" + a + ", " + b + ", " + c + ")", x.ones(a, b, c), model.ones(a, b, c));
                break;
            case 19:
                a = near(1, 2);
                b = random.nextBoolean() ? near(-10, 10) : near(-999, 999);
                c = near(0, 2);
                due("round(" + a + ", " + b + ", " + c + ")", x.round(a, b, c), model.round(a, b, c));
                break;
            case 20:
            case 21:
                a = near(0, (int) model.count(0) - 1);
                b = random.nextInt(4) > 0 ? (int) model.out(a) : volt();
                due("measure(" + a + ", " + b + ")", x.measure(a, b), model.measure(a, b));
                break;
            case 22:
                a = random.nextInt(8) == 0 ? near(0, 40) : 10 + 20 * random.nextInt(2) + near(0, 9);
                due("reckon(" + a + ")", x.reckon(a), model.reckon(a));
                break;
            case 23:
                due("adopt()", x.adopt(), model.adopt());
                break;
            case 24:
                a = near(0, 2);
                due("apart(" + a + ")", x.apart(a), model.apart(a));
                break;
            default:
                askSheets(kind);
                break;
        }
    }

    private void askSheets(int kind) {
        int a = near(0, 3);
        int b = near(0, 2);
        int c;
        int d;
        int e;
        switch (kind) {
            case 25:
                c = near(0, 64);
                due("sheet(" + a + ", " + b + ", " + c + ")", x.sheet(a, b, c), model.sheet(a, b, c));
                break;
            case 26:
            case 27:
                for (int i = 0; i < 4; i++) {
                    b = near(0, 20);
                    c = volt();
                    due("lay(" + a + ", " + b + ", " + c + ")", x.lay(a, b, c), model.lay(a, b, c));
                }
                break;
            case 28:
            case 29:
                c = near(0, 20);
                d = near(0, 20);
                e = near(0, 2);
                String of = a + ", " + b + ", " + c + ", " + d + ", " + e;
                due("wave(" + of + ")", x.wave(a, b, c, d, e), model.wave(a, b, c, d, e));
                break;
            case 30:
                a = near(0, 5);
                due("count(" + a + ")", x.count(a), model.count(a));
                break;
            default:
                due("fault()", x.fault(), model.fault());
                break;
        }
    }

    /** Measures so many codes that the rest often follows. */
    private void measureAll() {
        int shift = random.nextInt(3) == 0 ? random.nextInt(2001) - 1000 : random.nextInt(5);
        int noise = random.nextInt(3) == 0 ? 5 : 1;
        for (int i = 0; i < 12 && calls < CALLS - 40; i++) {
            int code = i < 9 && random.nextBoolean() ? 1 << i : code();
            if (code < model.count(0)) {
                int volt = (int) model.out(code) + shift + random.nextInt(noise);
                due("measure(" + code + ", " + volt + ")", x.measure(code, volt), model.measure(code, volt));
            }
        }
        for (int what = 0; what < 45; what += 1 + random.nextInt(12)) {
            due("reckon(" + what + ")", x.reckon(what), model.reckon(what));
        }
        due("adopt()", x.adopt(), model.adopt());
        due("out(1)", x.out(1), model.out(1));
    }

    private void text(String text) {
        for (int from = 0; from < text.length(); from += 8) {
            long v = 0;
            for (int i = from; i < from + 8; i++) {
                v = v << 8 | (i < text.length() ? text.charAt(i) & 255 : 32);
            }
            due("feed(" + v + ")", x.feed(v), model.feed(v));
        }
        if (random.nextInt(10) > 0) {
            due("end(" + text.length() + ")", x.end(text.length()), model.end(text.length()));
        } else {
            int n = near(0, text.length());
            due("end(" + n + ")", x.end(n), model.end(n));
        }
        due("text() of '" + text + "'", x.text(), model.text());
        due("fault()", x.fault(), model.fault());
        due("count(4)", x.count(4), model.count(4));
    }

    private String signed(int most) {
        int value = random.nextInt(most + 1);
        return (random.nextBoolean() ? random.nextBoolean() ? "-" : " - " : " ") + value;
    }

    /** Lines that mostly make up a text that is taken. */
    private String goodText() {
        StringBuilder text = new StringBuilder();
        int misses = random.nextInt(2) == 0 ? 12 : 200;
        if (random.nextInt(5) > 0) {
            text.append("bits ").append(2 + random.nextInt(random.nextInt(4) == 0 ? 7 : 4)).append(";");
        }
        if (random.nextInt(3) > 0) {
            text.append("unit ").append(1 + random.nextInt(random.nextInt(3) == 0 ? 99 : 12)).append("; ");
        }
        if (random.nextInt(3) == 0) {
            text.append("top;");
        }
        if (random.nextInt(3) == 0) {
            text.append(" offset").append(signed(999)).append(";");
        }
        if (random.nextInt(3) == 0) {
            text.append("lean").append(signed(30)).append(" ;");
        }
        if (random.nextInt(3) > 0) {
            text.append("ref ").append(1 + random.nextInt(random.nextInt(3) == 0 ? 999 : 12)).append(";");
        }
        for (int part = 0; part < 9 && text.length() < 150; part += 1 + random.nextInt(3)) {
            text.append("miss ").append(part).append(signed(misses)).append(";");
        }
        for (int i = random.nextInt(4); i < 16 && text.length() < 180; i += 1 + random.nextInt(5)) {
            text.append("string ").append(i).append(signed(9)).append(";");
        }
        return text.toString();
    }

    /** A text with a byte or a few changed, left out, or said twice. */
    private String brokenText() {
        StringBuilder text = new StringBuilder(goodText());
        String signs = "0123456789--;; abt.,A";
        for (int i = 0; i <= random.nextInt(3) && text.length() > 0; i++) {
            int at = random.nextInt(text.length());
            switch (random.nextInt(4)) {
                case 0: text.deleteCharAt(at); break;
                case 1: text.insert(at, signs.charAt(random.nextInt(signs.length()))); break;
                case 2: text.setCharAt(at, (char) random.nextInt(256)); break;
                default: text.insert(text.length(), text.substring(at)); break;
            }
        }
        text.setLength(Math.min(text.length(), 200));
        return text.toString();
    }
}
