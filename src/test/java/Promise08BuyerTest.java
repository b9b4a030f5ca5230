/** Promise 8, buyer: PURSE, for whose goods they came, what they CAN buy; NONE without these. */
public final class Promise08BuyerTest {
    public static void main(String[] args) {
        buyersThatThereAre();
        whats0To2();
        aPriceNotAboveThePurse();
        goodsThatAreLeft();
        allSixAsBits();
        anEmptyPurse();
        nothingChanges();
        Due.end();
    }

    private static void buyersThatThereAre() {
        Edge.refusedBeyond("buyer", 0, 1, -1, (x, buyer) -> x.buyer(buyer, 0));
        NextStall six = Due.of("fair 1 0;stall 1 1 1" + ";buyer 3 0".repeat(6));
        Due.is("of six the last one", six.buyer(5, 0), 3);
        Due.is("a seventh", six.buyer(6, 0), -1);
        Due.is("of a FAIR without BUYERS", Due.of(Edge.SIX_STALLS).buyer(0, 0), -1);
    }

    private static void whats0To2() {
        Edge.refusedBeyond("what", 0, 2, -1, (x, what) -> x.buyer(0, what));
        NextStall x = Due.of(MinuteTest.FAIR);
        Due.is("PURSE", x.buyer(1, 0), 9);
        Due.is("came", x.buyer(1, 1), 2);
        Due.is("CAN", x.buyer(1, 2), 7);
    }

    private static void aPriceNotAboveThePurse() {
        NextStall x = Due.of("fair 1 0;stall 1 9 0;stall 1 10 0;stall 1 11 0;buyer 10 0");
        Due.is("9 and 10, not 11", x.buyer(0, 2), 3);
        x.earn(0, 1);
        Due.is("11, too", x.buyer(0, 2), 7);
        x.undo();
        x.price(1, 40);
        Due.is("9 alone", x.buyer(0, 2), 1);
    }

    private static void goodsThatAreLeft() {
        NextStall x = Due.of("fair 1 0;stall 1 1 9;stall 0 1 0;buyer 9 0");
        Due.is("the last piece", x.buyer(0, 2), 1);
        x.minute();
        Due.is("none is left", x.buyer(0, 2), 0);
    }

    private static void allSixAsBits() {
        NextStall x = Due.of(Edge.SIX_STALLS + ";buyer 1 5");
        Due.is("all", x.buyer(0, 2), 63);
        x.price(0, 2);
        Due.is("all but the first", x.buyer(0, 2), 62);
        x.price(5, 2);
        Due.is("nor the last", x.buyer(0, 2), 30);
        Due.is("came for the last", x.buyer(0, 1), 5);
    }

    private static void anEmptyPurse() {
        NextStall x = Due.of("fair 1 0;stall 1 1 9;buyer 0 0");
        Due.is("PURSE", x.buyer(0, 0), 0);
        Due.is("nothing", x.buyer(0, 2), 0);
        Due.is("nothing is bought", x.minute(), 0);
        Due.is("PURSE", x.buyer(0, 0), 0);
    }

    private static void nothingChanges() {
        int[] due = {2, 1, 2};
        for (int what = 0; what <= 2; what++) {
            int asked = what;
            Edge.unchanged("buyer(0, " + what + ")", due[what], Edge::rich, x -> x.buyer(0, asked));
        }
    }
}
