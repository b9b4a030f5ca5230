/** Promise 22, rests: PRICES of 2 to 10 nobody betters in n MINUTES (1 to 20); -2: there is none; NONE without these. */
public final class Promise22RestsTest {
    /** Each buys of one stall alone, so that neither price touches the other. */
    private static final String EACH = "buy 1 if buyer = stall";

    public static void main(String[] args) {
        stallsThatThereAre();
        unlike();
        minutes1To20();
        whats0To2();
        theMostPrices();
        theLeastPrices();
        pricesBetween();
        theCheaperOneSells();
        allOrNone();
        theTwentiethMinute();
        theFirstByTheFirstOne();
        fromNowOn();
        nothingChanges();
        Due.end();
    }

    private static void rests(String name, NextStall x, int n, int... due) {
        for (int what = 0; what < 3; what++) {
            Due.is(name + ", what " + what, x.rests(0, 1, n, what), due[what]);
        }
    }

    private static NextStall purses(int first, int second) {
        return Edge.ruledBy("fair 1 0;stall 1 5 0;stall 1 5 0;buyer " + first + " 0;buyer " + second + " 1", EACH);
    }

    private static void stallsThatThereAre() {
        Edge.refusedBeyond("one", 0, 2, -1, (x, one) -> x.rests(one, 0, 1, 0));
        Edge.refusedBeyond("other", 0, 2, -1, (x, other) -> x.rests(0, other, 1, 0));
        Due.is("no STALLS", Due.of("fair 1 0").rests(0, 1, 1, 0), -1);
        NextStall six = Due.of(Edge.SIX_STALLS);
        Due.is("of six the last two", six.rests(5, 4, 1, 0), 25);
        Due.is("a seventh", six.rests(6, 0, 1, 0), -1);
        Due.is("a seventh", six.rests(0, 6, 1, 0), -1);
    }

    private static void unlike() {
        for (int stall = 0; stall < 3; stall++) {
            int same = stall;
            Edge.refused("rests(" + stall + ", " + stall + ")", -1, x -> x.rests(same, same, 1, 0));
        }
    }

    private static void minutes1To20() {
        Edge.refusedBeyond("n", 1, 20, -1, (x, n) -> x.rests(0, 1, n, 0));
    }

    private static void whats0To2() {
        Edge.refusedBeyond("what", 0, 2, -1, (x, what) -> x.rests(0, 1, 1, what));
    }

    private static void theMostPrices() {
        rests("full PURSES", purses(99, 99), 1, 1, 10, 10);
        rests("10 in each", purses(10, 10), 1, 1, 10, 10);
        rests("12 in each: there is no 12", purses(12, 12), 1, 1, 10, 10);
        rests("9 in each", purses(9, 9), 1, 1, 8, 8);
    }

    private static void theLeastPrices() {
        rests("2 in each", purses(2, 2), 1, 1, 2, 2);
        rests("3 in each: there is no 3", purses(3, 3), 1, 1, 2, 2);
        rests("1 in one: all of its PRICES are alike", purses(1, 2), 1, 5, 2, 2);
        rests("1 in each", purses(1, 1), 1, 25, 2, 2);
    }

    private static void pricesBetween() {
        rests("5 and 7", purses(5, 7), 1, 1, 4, 6);
        rests("8 and 4", purses(8, 4), 1, 1, 8, 4);
    }

    /** Of several prices alike 0's is bought: each would go below the other's, down to 2. */
    private static void theCheaperOneSells() {
        String fair = "fair 1 0;stall 1 5 0;stall 1 5 0;buyer 10 0";
        rests("the cheaper", Edge.ruledBy(fair, "buy 20 - price"), 1, 1, 2, 2);
        // The dearer one sells, of several alike 0: 10 by 0, whatever 1 takes.
        rests("the dearer", Edge.ruledBy(fair, "buy price"), 1, 5, 10, 2);
        // The dearer one sells, of several alike 1: 10 by 1, whatever 0 takes.
        rests("the dearer", Edge.ruledBy(fair, "buy price * 2 + stall"), 1, 5, 2, 10);
    }

    private static void allOrNone() {
        rests("nobody is there", Due.of("fair 1 0;stall 9 5 0;stall 9 5 0"), 20, 25, 2, 2);
        rests("nothing to sell", Due.of("fair 1 0;stall 0 5 0;stall 0 5 0;buyer 9 0"), 20, 25, 2, 2);
        // Found by a search with the model.
        rests("none", Due.of("fair 1 2;stall 3 3 0;stall 3 3 1;buyer 9 1;buyer 15 0"), 4, 0, -2, -2);
    }

    private static void theTwentiethMinute() {
        NextStall x = Edge.ruledBy("fair 1 0;stall 1 5 0;stall 1 5 0;buyer 9 0;buyer 9 1", EACH + " and day >= 19");
        rests("in it", x, 20, 1, 8, 8);
        rests("ahead of it", x, 19, 25, 2, 2);
        NextStall y = Edge.ruledBy("fair 1 0;stall 1 5 0;stall 1 5 0;buyer 9 0;buyer 9 1", EACH + " and day >= 1");
        rests("in the first", y, 1, 25, 2, 2);
        rests("in the second", y, 2, 1, 8, 8);
    }

    private static void theFirstByTheFirstOne() {
        NextStall x = purses(1, 9);
        rests("five", x, 1, 5, 2, 8);
        Due.is("the other way round", x.rests(1, 0, 1, 0), 5);
        Due.is("the other way round", x.rests(1, 0, 1, 1), 8);
        Due.is("the other way round", x.rests(1, 0, 1, 2), 2);
    }

    private static void fromNowOn() {
        NextStall x = purses(9, 9);
        x.price(0, 1);
        x.minute();
        rests("all is sold", x, 1, 25, 2, 2);
        Due.is("PRICE", x.stall(0, 1), 1);
    }

    private static void nothingChanges() {
        for (int what = 0; what < 3; what++) {
            int asked = what;
            int due = Edge.rich().rests(1, 2, 20, what);
            Edge.unchanged("rests(1, 2, 20, " + what + ")", due, Edge::rich, x -> x.rests(1, 2, 20, asked));
        }
    }
}
