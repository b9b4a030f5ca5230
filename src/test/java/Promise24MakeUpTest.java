/** Promise 24, makeUp: the grudge that had best be none in n MINUTES (1 to 40); -2: none; NONE without these, or a FAIR. */
public final class Promise24MakeUpTest {
    /** What is bought at all is 2's goods for 5, if the one who sells them bears no grudge. */
    private static final String DEAR = "fair 1 0;stall 9 1 4;stall 9 1 4;stall 9 5 4;grudge 1 2;buyer 99 0";

    public static void main(String[] args) {
        withoutAFair();
        minutes1To40();
        whats0To2();
        noGrudges();
        noGrudgeIsMade();
        ofSeveralNone();
        ofSeveralTheLeastWho();
        againstWhom();
        theFortiethMinute();
        ofSixTheLast();
        nothingChanges();
        Due.end();
    }

    private static void makeUp(String name, NextStall x, int n, int... due) {
        for (int what = 0; what < 3; what++) {
            Due.is(name + ", what " + what, x.makeUp(n, what), due[what]);
        }
    }

    private static void withoutAFair() {
        for (int what = 0; what < 3; what++) {
            Due.is("what " + what, new NextStall().makeUp(1, what), -1);
        }
    }

    private static void minutes1To40() {
        Edge.refusedBeyond("n", 1, 40, -1, (x, n) -> x.makeUp(n, 0));
    }

    private static void whats0To2() {
        Edge.refusedBeyond("what", 0, 2, -1, (x, what) -> x.makeUp(1, what));
    }

    private static void noGrudges() {
        makeUp("no grudges", Due.of(Edge.ONE_A_DAY), 40, 20, -2, -2);
        makeUp("no STALLS", Due.of("fair 1 0"), 40, 0, -2, -2);
        makeUp("no BUYERS", Due.of(Edge.SIX_STALLS), 40, 0, -2, -2);
    }

    private static void noGrudgeIsMade() {
        makeUp("one would be of use", Edge.ruledBy(Edge.SIX_STALLS + ";buyer 9 0", "buy 1 if grudge = 1"), 9, 0, -2, -2);
        makeUp("another would be of use", Edge.ruledBy(DEAR, "buy 1 if grudge = 1 and stall = 1"), 9, 0, -2, -2);
        makeUp("alone", Edge.ruledBy(Edge.ONE_A_DAY, "buy 1 if grudge = 1"), 9, 0, -2, -2);
    }

    private static void ofSeveralNone() {
        makeUp("nothing by it", Due.of("fair 1 0;stall 9 1 4;stall 9 1 4;grudge 0 1;buyer 9 0"), 2, 2, -2, -2);
        // Without the grudge less would be taken.
        NextStall x = Edge.ruledBy(DEAR, "buy 1 if grudge = 1");
        makeUp("less by it", x, 2, 10, -2, -2);
    }

    private static void ofSeveralTheLeastWho() {
        NextStall x = Due.of("fair 1 0;stall 9 1 10;stall 9 5 10;stall 9 5 4;grudge 1 2;grudge 0 1;buyer 99 0");
        // 0's are praised 4 + 3, the others 10 / 2, and 10 without the grudge of who sells them.
        Due.is("as it is", x.taken(1), 1);
        makeUp("alike", x, 1, 5, 0, 1);
        x.price(2, 6);
        makeUp("not alike", x, 1, 6, 1, 2);
        x.price(2, 4);
        makeUp("not alike", x, 1, 5, 0, 1);
    }

    private static void againstWhom() {
        NextStall x = Due.of("fair 1 0;stall 9 1 4;stall 9 1 0;stall 9 5 0;grudge 0 1;grudge 0 2;buyer 99 0");
        makeUp("0 sells 1's", x, 1, 1, -2, -2);
        x.move(1, 2);
        makeUp("0 sells 2's", x, 1, 5, 0, 2);
        Due.is("as it is", x.taken(1), 1);
    }

    private static void theFortiethMinute() {
        NextStall x = Edge.ruledBy(DEAR, "buy 1 if stall = 2 and grudge = 0 and day >= 39");
        makeUp("in it", x, 40, 5, 1, 2);
        makeUp("ahead of it", x, 39, 0, -2, -2);
        NextStall y = Edge.ruledBy(DEAR, "buy 1 if stall = 2 and grudge = 0 and day >= 1");
        makeUp("in the first", y, 1, 0, -2, -2);
        makeUp("in the second", y, 2, 5, 1, 2);
    }

    private static void ofSixTheLast() {
        NextStall x = Edge.ruledBy(Edge.SIX_STALLS + ";grudge 5 0;grudge 5 4;grudge 4 5;buyer 9 0", "buy 1 if stall = 0 and grudge = 0");
        makeUp("5 sells 0's", x, 1, 1, 5, 0);
        NextStall y = Edge.ruledBy(Edge.SIX_STALLS + ";grudge 5 0;grudge 4 5;buyer 9 0", "buy 1 if stall = 5 and grudge = 0");
        makeUp("4 sells 5's", y, 1, 1, 4, 5);
    }

    private static void nothingChanges() {
        for (int what = 0; what < 3; what++) {
            int asked = what;
            int due = Edge.rich().makeUp(40, what);
            Edge.unchanged("makeUp(40, " + what + ")", due, Edge::rich, x -> x.makeUp(40, asked));
        }
    }
}
