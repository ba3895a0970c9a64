/** The edges that the document names for kept errors: 2, promises 23 to 25. */
public final class EdgesKeptTest {
    private static final Check check = new Check();
    private static final Edges edges = new Edges(check);
    private static final int ALL = (1 << 30) - 1;

    public static void main(String[] args) {
        keptBounds();
        onesBounds();
        roundBounds();
        zeroOrMore();
        nothingGivenAheadOfTheFirst();
        firstAndLastTicks();
        refAtItsBounds();
        cutAtAMillion();
        roundsOfOneTick();
        upToTick400OfOrderOne();
        upToTick400OfOrderTwo();
        check.finish("EdgesKeptTest");
    }

    /** "KEPT ERROR of a volt (-999 to 999): bits of ticks from f (0 to 400) on, n (1 to 30)", "order 1 or 2" */
    private static void keptBounds() {
        edges.bounds(-1, 0, 1, 2, "kept", 0, 5, 3, 9);
        for (int order = 1; order <= 2; order++) {
            edges.bounds(-1, 1, -999, 999, "kept", order, 0, 3, 9);
            edges.bounds(-1, 2, 0, 400, "kept", order, 5, 0, 9);
            edges.bounds(-1, 3, 1, 30, "kept", order, 5, 3, 0);
            edges.bounds(-1, 3, 1, 30, "kept", order, 5, 400, 0);
        }
    }

    /** "How many of the first k (1 to 400) bits are 1." */
    private static void onesBounds() {
        edges.bounds(-1, 0, 1, 2, "ones", 0, 5, 9);
        for (int order = 1; order <= 2; order++) {
            edges.bounds(-1, 1, -999, 999, "ones", order, 0, 9);
            edges.bounds(-1, 2, 1, 400, "ones", order, 5, 0);
        }
    }

    /** "BAD; NONE: none up to tick 400", in this order */
    private static void roundBounds() {
        edges.bounds(-1, 0, 1, 2, "round", 0, 10, 0);
        for (int order = 1; order <= 2; order++) {
            edges.bounds(-1, 1, -999, 999, "round", order, 0, 1);
            edges.bounds(-1, 2, 0, 2, "round", order, 10, 0);
            // BAD comes ahead of NONE.
            edges.refused(Edges.FRESH, -1, "round", order, 999, 3);
            edges.refused(Edges.FRESH, -1, "round", order, 999, -1);
        }
    }

    /** "bit 1, if s is 0 or more", "bit 1, if t is 0 or more" */
    private static void zeroOrMore() {
        VoltNumbers x = new VoltNumbers();
        for (int order = 1; order <= 2; order++) {
            check.due("0 of order " + order, x.kept(order, 0, 0, 1), 1);
            check.due("1 of order " + order, x.kept(order, 1, 0, 1), 1);
            check.due("-1 of order " + order, x.kept(order, -1, 0, 1), 0);
        }
        // Order 1, ref 3, v 1: s is 1, -1, 3, 1 with the volt: bits 1 0 1, and again.
        check.due("order 1, just below 0", check.told("ref 3;").kept(1, 1, 0, 6), 0b101101);
        // v -1: s is -1, 1, -3, -1 with the volt: bits 0 1 0, and again.
        check.due("order 1, turned about", check.told("ref 3;").kept(1, -1, 0, 6), 0b010010);
        // Order 1, ref 2, v 1: s is 1, 0, -1, 2 with the volt: bits 1 1 0 1, and again.
        check.due("order 1, 0 on the way", check.told("ref 2;").kept(1, 1, 0, 8), 0b10111011);
        // Order 2, ref 2, v 1: s, t: 1 1, 0 -1, 3 4, 2 4, 1 3, 0 1, -1 -2, 2 2, 1 1: bits 1 0 1 1 1 1 0 1 1.
        check.due("order 2", check.told("ref 2;").kept(2, 1, 0, 9), 0b110111101);
    }

    /** "0 ahead of the first" */
    private static void nothingGivenAheadOfTheFirst() {
        // Had the bit ahead given 100, s would be below 0; had it given -100, t would be above 0.
        check.due("v 5", new VoltNumbers().kept(2, 5, 0, 1), 1);
        check.due("v -5", new VoltNumbers().kept(2, -5, 0, 1), 0);
        check.due("v 5, the second", new VoltNumbers().kept(2, 5, 0, 2), 1);
        check.due("v -5, the second", new VoltNumbers().kept(2, -5, 0, 2), 2);
    }

    /** "(the first the lowest)": ticks 0 and 429 are the first and last that can be asked. */
    private static void firstAndLastTicks() {
        VoltNumbers x = check.told("ref 3;");
        for (int f = 0; f <= 400; f += f == 0 ? 1 : 3) {
            // Bits 1 0 1 again and again.
            int due = f % 3 == 0 ? 0b101 : f % 3 == 1 ? 0b110 : 0b011;
            check.due("kept from " + f, x.kept(1, 1, f, 3), due);
        }
        check.due("30 from 399", x.kept(1, 1, 399, 30), 0b101101101101101101101101101101);
        check.due("30 from 400", x.kept(1, 1, 400, 30), 0b110110110110110110110110110110);
        check.due("1 from 400", x.kept(1, 1, 400, 1), 0);
        check.due("1 of the first", x.ones(1, 1, 1), 1);
        check.due("2 of the first", x.ones(1, 1, 2), 1);
        check.due("399 of the first", x.ones(1, 1, 399), 266);
        check.due("400 of the first", x.ones(1, 1, 400), 267);
    }

    /** "ref: 1 to 999": what a bit gives */
    private static void refAtItsBounds() {
        VoltNumbers most = check.told("ref 999;");
        for (int order = 1; order <= 2; order++) {
            check.due("v 999, ref 999", most.ones(order, 999, 400), 400);
            check.due("v -999, ref 999", most.ones(order, -999, 400), 0);
            check.due("v 999, ref 999: a round of one", most.round(order, 999, 1), 1);
        }
        VoltNumbers least = check.told("ref 1;");
        check.due("v 1, ref 1", least.kept(1, 1, 400, 30), ALL);
        check.due("v 0, ref 1", least.kept(1, 0, 0, 4), 0b0101);
    }

    /** "both cut at 1000000 up and down": t comes there by tick 46, and no call can tell it by more. */
    private static void cutAtAMillion() {
        VoltNumbers x = check.told("ref 1;");
        check.due("up", x.kept(2, 999, 400, 30), ALL);
        check.due("up, all", x.ones(2, 999, 400), 400);
        check.due("down", x.kept(2, -999, 400, 30), 0);
        check.due("down, all", x.ones(2, -999, 400), 0);
        for (int what = 0; what <= 2; what++) {
            check.due("t stays, s does not", x.round(2, 999, what), -4);
            check.due("t stays, s does not", x.round(2, -999, what), -4);
        }
    }

    private static void round(String text, int order, int v, int start, int length, int ones) {
        int[] due = {start, length, ones};
        for (int what = 0; what <= 2; what++) {
            String call = "'" + text + "' round(" + order + ", " + v + ", " + what + ")";
            check.due(call, check.told(text).round(order, v, what), due[what]);
        }
    }

    /** "ahead of a tick as they were ahead of one before": at once, for the volt is ref. */
    private static void roundsOfOneTick() {
        round("ref 4;", 1, 4, 0, 1, 1);
        round("ref 4;", 1, -4, 0, 1, 0);
        round("ref 4;", 1, 0, 0, 2, 1);
        round("ref 1;", 1, 1, 0, 1, 1);
        // The bit ahead of the first tick is neither 0 nor 1, so order 2 never comes back to it.
        round("ref 4;", 2, 4, 1, 1, 1);
        round("ref 4;", 2, -4, 1, 1, 0);
        round("ref 1;", 2, 0, 1, 4, 2);
    }

    /** "(ticks 0 to 400 are looked at)", "NONE: none up to tick 400" */
    private static void upToTick400OfOrderOne() {
        // From 0 on, of ref ticks if ref and 1 are both odd, else of twice ref.
        round("ref 399;", 1, 1, 0, 399, 200);
        round("ref 200;", 1, 1, 0, 400, 201);
        round("ref 401;", 1, 1, -4, -4, -4);
        round("ref 202;", 1, 1, -4, -4, -4);
        round("ref 999;", 1, 0, 0, 2, 1);
        round("ref 99;", 1, 100, -4, -4, -4);
    }

    private static void upToTick400OfOrderTwo() {
        round("ref 34;", 2, 31, 264, 136, 130);
        round("ref 34;", 2, -31, 264, 136, 6);
        round("ref 399;", 2, 25, 1, 399, 212);
        round("ref 397;", 2, 29, 1, 397, 213);
        // Ahead of tick 401 it is as ahead of tick 1.
        round("ref 100;", 2, 27, -4, -4, -4);
        round("ref 100;", 2, -27, -4, -4, -4);
    }
}
