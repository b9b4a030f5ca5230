/** Promise 19, bestRing: n 1 to 40, NONE how much, 0 to 5 who stands there, -2 nobody; -3 without these, or a FAIR. */
public final class Promise19BestRingTest {
    /** Each has its own TONGUE, so a RULE can tell by PRAISE who sells. */
    private static final String TONGUES = "fair 1 0;stall 1 1 0;stall 1 1 1;stall 1 1 2;stall 1 1 3;stall 1 1 4;stall 1 1 5;buyer 9 0";

    public static void main(String[] args) {
        withoutAFair();
        minutes1To40();
        whatsNoneTo5();
        theFortiethMinute();
        nobodyStandsThere();
        theLastOrder();
        ofSeveralTheFirst();
        fromNowOn();
        nothingChanges();
        Due.end();
    }

    private static void withoutAFair() {
        for (int what = -1; what < 6; what++) {
            Due.is("what " + what, new NextStall().bestRing(1, what), -3);
        }
    }

    private static void minutes1To40() {
        Edge.refusedBeyond("n", 1, 40, -3, (x, n) -> x.bestRing(n, -1));
        Edge.refusedBeyond("n, who", 1, 40, -3, (x, n) -> x.bestRing(n, 0));
    }

    private static void whatsNoneTo5() {
        Edge.refusedBeyond("what", -1, 5, -3, (x, what) -> x.bestRing(1, what));
        NextStall six = Due.of(Edge.SIX_STALLS);
        Due.is("the first what", six.bestRing(1, -1), 0);
        Due.is("the last what", six.bestRing(1, 5), 5);
    }

    private static void theFortiethMinute() {
        NextStall x = Edge.ruledBy(Edge.ONE_A_DAY, "buy 1 if day >= 39");
        Due.is("in it", x.bestRing(40, -1), 1);
        Due.is("ahead of it", x.bestRing(39, -1), 0);
        NextStall y = Due.of(Edge.ONE_A_DAY);
        Due.is("one MINUTE", y.bestRing(1, -1), 1);
        Due.is("two MINUTES", y.bestRing(2, -1), 2);
    }

    private static void nobodyStandsThere() {
        Edge.order("no STALLS", Due.of("fair 1 0"), (x, place) -> x.bestRing(1, place));
        Due.is("no STALLS", Due.of("fair 1 0").bestRing(40, -1), 0);
        Edge.order("one", Due.of("fair 1 0;stall 1 1 1"), (x, place) -> x.bestRing(1, place), 0);
        Edge.order("two", Due.of("fair 1 0;stall 1 1 1;stall 1 1 1"), (x, place) -> x.bestRing(1, place), 0, 1);
        Edge.order("six", Due.of(Edge.SIX_STALLS), (x, place) -> x.bestRing(1, place), 0, 1, 2, 3, 4, 5);
    }

    /** What is bought by it was told by the one ahead of its own: of all orders the last has six such. */
    private static final String LAST_ORDER = "buy 1 if praise = stall + 1 or stall = 5 and praise = 0";

    private static void theLastOrder() {
        NextStall x = Edge.ruledBy(TONGUES, LAST_ORDER);
        Due.is("all six", x.bestRing(6, -1), 6);
        Edge.order("the last of 120", x, (y, place) -> y.bestRing(6, place), 0, 5, 4, 3, 2, 1);
    }

    private static void ofSeveralTheFirst() {
        NextStall x = Edge.ruledBy(TONGUES, LAST_ORDER);
        Due.is("one", x.bestRing(1, -1), 1);
        Edge.order("the first with one", x, (y, place) -> y.bestRing(1, place), 0, 1, 2, 3, 5, 4);
        x.force(-1);
        Edge.order("all alike", x, (y, place) -> y.bestRing(40, place), 0, 1, 2, 3, 4, 5);
        x.move(0, 5);
        x.move(1, 4);
        Edge.order("not as they stand", x, (y, place) -> y.bestRing(40, place), 0, 1, 2, 3, 4, 5);
    }

    private static void fromNowOn() {
        NextStall x = Edge.ruledBy(TONGUES, LAST_ORDER);
        Due.is("nothing by the order told", x.minute(), 0);
        x.move(4, 5);
        Due.is("1", x.minute(), 1);
        Due.is("what is left", x.bestRing(40, -1), 5);
        Edge.order("without 4's", x, (y, place) -> y.bestRing(40, place), 0, 5, 4, 3, 2, 1);
    }

    private static void nothingChanges() {
        Edge.unchanged("bestRing(40, 5)", -2, Edge::rich, x -> x.bestRing(40, 5));
        Edge.unchanged("bestRing(40, 0)", 0, Edge::rich, x -> x.bestRing(40, 0));
    }
}
