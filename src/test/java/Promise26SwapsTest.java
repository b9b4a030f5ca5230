/** Promise 26, swaps: twos by whose MOVE both have more in n MINUTES (1 to 40); -2: there is none; NONE without these. */
public final class Promise26SwapsTest {
    /** By any MOVE of two of three PRAISE of 0's, 1's and 2's becomes 2, 3 and 1; as told it is 3, 1 and 2. */
    private static final String THREE = "fair 1 0;stall 1 1 1;stall 1 1 2;stall 1 1 3;buyer 9 0";
    private static final String OF_0 = "stall = 0 and praise = 2";
    private static final String OF_1 = "stall = 1 and praise = 3";
    private static final String OF_2 = "stall = 2 and praise = 1";

    public static void main(String[] args) {
        withoutAFair();
        minutes1To40();
        whats0To2();
        noneOfOneOrTwo();
        bothMustHaveMore();
        theFirstAndTheLastTwo();
        theFortiethMinute();
        ofSixTheLastTwo();
        nothingChanges();
        Due.end();
    }

    private static void swaps(String name, NextStall x, int n, int... due) {
        for (int what = 0; what < 3; what++) {
            Due.is(name + ", what " + what, x.swaps(n, what), due[what]);
        }
    }

    private static void withoutAFair() {
        swaps("without a FAIR", new NextStall(), 1, -1, -1, -1);
    }

    private static void minutes1To40() {
        Edge.refusedBeyond("n", 1, 40, -1, (x, n) -> x.swaps(n, 0));
    }

    private static void whats0To2() {
        Edge.refusedBeyond("what", 0, 2, -1, (x, what) -> x.swaps(1, what));
    }

    private static void noneOfOneOrTwo() {
        swaps("no STALLS", Due.of("fair 1 0"), 40, 0, -2, -2);
        swaps("one", Due.of(Edge.ONE_A_DAY), 40, 0, -2, -2);
        swaps("two", Due.of("fair 1 0;stall 1 3 2;stall 4 2 9;buyer 50 0;buyer 50 1"), 40, 0, -2, -2);
        swaps("no BUYERS", Due.of(Edge.SIX_STALLS), 40, 0, -2, -2);
    }

    private static void bothMustHaveMore() {
        swaps("one alone", Edge.ruledBy(THREE, "buy 1 if " + OF_0), 9, 0, -2, -2);
        swaps("both", Edge.ruledBy(THREE, "buy 1 if " + OF_0 + " or " + OF_1), 2, 1, 0, 1);
        swaps("one in one MINUTE", Edge.ruledBy(THREE, "buy 1 if " + OF_0 + " or " + OF_1), 1, 0, -2, -2);
        swaps("alike for 1, more for 0", Edge.ruledBy(THREE, "buy 1 if stall = 1 or " + OF_0), 9, 0, -2, -2);
        swaps("alike for 0, more for 1", Edge.ruledBy(THREE, "buy 1 if stall = 0 or " + OF_1), 9, 0, -2, -2);
        swaps("less", Edge.ruledBy(THREE, "buy 1 if stall = 0 and praise = 3"), 9, 0, -2, -2);
    }

    private static void theFirstAndTheLastTwo() {
        swaps("all", Edge.ruledBy(THREE, "buy 1 if " + OF_0 + " or " + OF_1 + " or " + OF_2), 9, 3, 0, 1);
        swaps("0 and 2", Edge.ruledBy(THREE, "buy 1 if " + OF_0 + " or " + OF_2), 9, 1, 0, 2);
        swaps("1 and 2", Edge.ruledBy(THREE, "buy 1 if " + OF_1 + " or " + OF_2), 9, 1, 1, 2);
    }

    private static void theFortiethMinute() {
        NextStall x = Edge.ruledBy(THREE, "buy 1 if day >= 38 and [" + OF_0 + " or " + OF_1 + "]");
        swaps("the second of both in it", x, 40, 1, 0, 1);
        swaps("ahead of it", x, 39, 0, -2, -2);
        NextStall two = Edge.ruledBy(THREE + ";buyer 9 0", "buy 1 if " + OF_0 + " or " + OF_1);
        swaps("both in the first", two, 1, 1, 0, 1);
    }

    private static void ofSixTheLastTwo() {
        String six = "fair 1 0;stall 1 1 0;stall 1 1 1;stall 1 1 2;stall 1 1 3;stall 1 1 4;stall 1 1 5;buyer 9 0";
        // Behind the MOVE of 4 and 5 3 sells 5's, and 5 sells 4's.
        NextStall x = Edge.ruledBy(six, "buy 1 if stall = 5 and praise = 3 or stall = 4 and praise = 5");
        swaps("4 and 5", x, 2, 1, 4, 5);
        // Behind the MOVE of 0 and 5 5 sells 1's, 0 sells 5's, and 4 sells 0's.
        NextStall y = Edge.ruledBy(six, "buy 1 if stall = 5 and praise = 0 or stall = 0 and praise = 4");
        swaps("0 and 5", y, 2, 1, 0, 5);
    }

    private static void nothingChanges() {
        for (int what = 0; what < 3; what++) {
            int asked = what;
            int due = Edge.rich().swaps(40, what);
            Edge.unchanged("swaps(40, " + what + ")", due, Edge::rich, x -> x.swaps(40, asked));
        }
    }
}
