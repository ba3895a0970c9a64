/** The edges that the document names for two slopes: 2, promises 21 and 22. */
public final class EdgesSlopesTest {
    private static final Check check = new Check();
    private static final Edges edges = new Edges(check);

    public static void main(String[] args) {
        slopesBounds();
        humBounds();
        evenPeriods();
        beginningsOfAllPeriods();
        untilTheSumIsZeroOrLess();
        thousandAtMost();
        firstHalfOfEachPeriod();
        numbersAtTheirBounds();
        differencesOfBeginnings();
        check.finish("EdgesSlopesTest");
    }

    /** "k ticks (1 to 400), a volt (0 to 999), a HUM h (0 to 99) of a period p (2 to 40), f (0 to p less 1)" */
    private static void slopesBounds() {
        edges.bounds(-1, 0, 1, 400, "slopes", 0, 5, 3, 10, 4);
        edges.bounds(-1, 1, 0, 999, "slopes", 7, 0, 3, 10, 4);
        edges.bounds(-1, 2, 0, 99, "slopes", 7, 5, 0, 10, 4);
        edges.bounds(-1, 3, 2, 40, "slopes", 7, 5, 3, 0, 1);
        edges.bounds(-1, 4, 0, 1, "slopes", 7, 5, 3, 2, 0);
        edges.bounds(-1, 4, 0, 39, "slopes", 7, 5, 3, 40, 0);
    }

    /** "BAD": the bounds are those of slopes */
    private static void humBounds() {
        edges.bounds(-1, 0, 1, 400, "hum", 0, 5, 3, 10);
        edges.bounds(-1, 1, 0, 999, "hum", 7, 0, 3, 10);
        edges.bounds(-1, 2, 0, 99, "hum", 7, 5, 0, 10);
        edges.bounds(-1, 3, 2, 40, "hum", 7, 5, 3, 0);
    }

    /** "a period of p ticks, even" */
    private static void evenPeriods() {
        for (int p = -4; p <= 44; p++) {
            boolean taken = p >= 2 && p <= 40 && p % 2 == 0;
            VoltNumbers x = new VoltNumbers();
            check.due("slopes, period " + p, x.slopes(1, 100, 0, p, 0), taken ? 1 : -1);
            check.due("hum, period " + p, x.hum(1, 100, 0, p), taken ? 0 : -1);
            if (!taken) {
                edges.refused(Edges.USED, -1, "slopes", 1, 100, 0, p, 0);
                edges.refused(Edges.USED, -1, "hum", 1, 100, 0, p);
            }
        }
    }

    /** "from tick f (0 to p less 1) of it on" */
    private static void beginningsOfAllPeriods() {
        for (int p = 2; p <= 40; p += 2) {
            VoltNumbers x = check.told("ref 1;");
            check.due("f 0 of " + p, x.slopes(1, 5, 1, p, 0), 6);
            check.due("the last of the first half", x.slopes(1, 5, 1, p, p / 2 - 1), 6);
            check.due("the first of the second half", x.slopes(1, 5, 1, p, p / 2), 4);
            check.due("the last", x.slopes(1, 5, 1, p, p - 1), 4);
            check.due("the last and the first again", x.slopes(2, 5, 1, p, p - 1), 10);
            check.due("none ahead of the first", x.slopes(1, 5, 1, p, -1), -1);
            check.due("none behind the last", x.slopes(1, 5, 1, p, p), -1);
        }
    }

    /** "then down by ref a tick until the sum is 0 or less: how many ticks. (0, if it is so at once" */
    private static void untilTheSumIsZeroOrLess() {
        VoltNumbers x = check.told("ref 10;");
        check.due("0 at once", x.slopes(400, 0, 0, 2, 0), 0);
        check.due("0 at once, with a hum of two ticks", x.slopes(2, 0, 99, 2, 0), 0);
        check.due("below 0 at once", x.slopes(1, 0, 1, 2, 1), 0);
        check.due("far below 0 at once", x.slopes(20, 0, 99, 40, 20), 0);
        check.due("just above 0", x.slopes(1, 1, 0, 2, 0), 1);
        check.due("just above 0, by the hum alone", x.slopes(1, 0, 1, 2, 0), 1);
        check.due("9", x.slopes(1, 9, 0, 2, 0), 1);
        check.due("10 comes to 0", x.slopes(1, 10, 0, 2, 0), 1);
        check.due("11", x.slopes(1, 11, 0, 2, 0), 2);
        check.due("20 comes to 0", x.slopes(2, 10, 0, 2, 0), 2);
        check.due("21", x.slopes(3, 7, 0, 2, 0), 3);
    }

    /** "1000 at most" */
    private static void thousandAtMost() {
        VoltNumbers x = check.told("ref 10;");
        check.due("9990", x.slopes(10, 999, 0, 2, 0), 999);
        check.due("9991", x.slopes(97, 103, 0, 2, 0), 1000);
        check.due("10000", x.slopes(100, 100, 0, 2, 0), 1000);
        check.due("10001", x.slopes(73, 137, 0, 2, 0), 1000);
        check.due("399600", x.slopes(400, 999, 0, 2, 0), 1000);
        VoltNumbers least = check.told("ref 1;");
        check.due("999 by 1", least.slopes(1, 999, 0, 2, 0), 999);
        check.due("1000 by 1", least.slopes(1, 999, 1, 2, 0), 1000);
        check.due("1001 by 1", least.slopes(1, 999, 2, 2, 0), 1000);
        VoltNumbers most = check.told("ref 999;");
        check.due("399600 by 999", most.slopes(400, 999, 0, 2, 0), 400);
        check.due("401580 by 999", most.slopes(380, 999, 99, 40, 0), 382);
    }

    /** "h in ticks of the first half of each period, less h in those of the second one" */
    private static void firstHalfOfEachPeriod() {
        VoltNumbers x = check.told("ref 1;");
        check.due("a half", x.slopes(20, 10, 1, 40, 0), 220);
        check.due("a half and one", x.slopes(21, 10, 1, 40, 0), 229);
        check.due("a period", x.slopes(40, 10, 1, 40, 0), 400);
        check.due("a period and one", x.slopes(41, 10, 1, 40, 0), 411);
        check.due("two periods less one", x.slopes(79, 10, 1, 40, 0), 791);
        check.due("the second half", x.slopes(20, 10, 1, 40, 20), 180);
        check.due("the last tick and the first half", x.slopes(21, 10, 1, 40, 39), 229);
        check.due("each second tick", x.slopes(3, 10, 1, 2, 0), 31);
        check.due("each second tick, from the second on", x.slopes(3, 10, 1, 2, 1), 29);
    }

    /** "up for k ticks by a volt v and a HUM": each number at its least and greatest */
    private static void numbersAtTheirBounds() {
        VoltNumbers x = check.told("ref 1;");
        check.due("k 1, v 0, h 99", x.slopes(1, 0, 99, 2, 0), 99);
        check.due("k 400, v 0, h 99: whole periods", x.slopes(400, 0, 99, 40, 0), 0);
        check.due("k 400, v 2, h 0", x.slopes(400, 2, 0, 40, 39), 800);
        check.due("k 399, p 38: 10 periods and 19 ticks", x.slopes(399, 2, 1, 38, 0), 817);
    }

    /** "The greatest difference that a HUM's beginning f makes to the ticks down." */
    private static void differencesOfBeginnings() {
        VoltNumbers x = check.told("ref 1;");
        check.due("no hum", x.hum(7, 5, 0, 10), 0);
        check.due("nothing at all", x.hum(1, 0, 0, 2), 0);
        check.due("no volt, whole periods", x.hum(400, 0, 99, 40), 0);
        check.due("whole periods", x.hum(400, 2, 99, 40), 0);
        check.due("one tick less", x.hum(399, 2, 1, 40), 2);
        check.due("one tick", x.hum(1, 99, 99, 2), 198);
        check.due("one tick, cut at 0", x.hum(1, 98, 99, 2), 197);
        check.due("no volt: only above 0", x.hum(1, 0, 99, 2), 99);
        check.due("half a period", x.hum(20, 10, 1, 40), 40);
        check.due("the beginning f in the middle", x.hum(2, 10, 1, 4), 4);
        check.due("cut at 1000", x.hum(10, 99, 1, 20), 20);
        check.due("cut at 1000 from above", x.hum(10, 100, 1, 20), 10);
        check.due("all of it above 1000", x.hum(11, 100, 1, 20), 0);
        // 99 and 101 by 100: one tick and two.
        check.due("ticks, not sums", new VoltNumbers().hum(1, 100, 1, 2), 1);
        check.due("99 and 97 are one tick", new VoltNumbers().hum(1, 98, 1, 2), 0);
    }
}
