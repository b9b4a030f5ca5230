/** Promise 21, fairPrice: the PRICE, 1 to 40, by which WEALTH is most in n MINUTES (1 to 60); NONE without these. */
public final class Promise21FairPriceTest {
    public static void main(String[] args) {
        stallsThatThereAre();
        minutes1To60();
        whats0To1();
        theMostPrice();
        theLeastPrice();
        ofSeveralTheLeast();
        theSixtiethMinute();
        aheadOfDusk();
        inPlaceOfWhatItIs();
        nothingChanges();
        Due.end();
    }

    private static void fairPrice(String name, NextStall x, int n, int price, int much) {
        Due.is(name + ": which", x.fairPrice(0, n, 0), price);
        Due.is(name + ": how much", x.fairPrice(0, n, 1), much);
    }

    private static void stallsThatThereAre() {
        Edge.refusedBeyond("stall", 0, 2, -1, (x, stall) -> x.fairPrice(stall, 1, 0));
        Due.is("no STALLS", Due.of("fair 1 0").fairPrice(0, 1, 0), -1);
        NextStall six = Due.of(Edge.SIX_STALLS + ";buyer 40 5");
        Due.is("of six the last one", six.fairPrice(5, 1, 0), 40);
        Due.is("a seventh", six.fairPrice(6, 1, 0), -1);
    }

    private static void minutes1To60() {
        Edge.refusedBeyond("n", 1, 60, -1, (x, n) -> x.fairPrice(0, n, 0));
    }

    private static void whats0To1() {
        Edge.refusedBeyond("what", 0, 1, -1, (x, what) -> x.fairPrice(0, 1, what));
    }

    private static void theMostPrice() {
        fairPrice("a full PURSE", Due.of("fair 1 0;stall 1 5 0;buyer 99 0"), 1, 40, 40);
        fairPrice("40 in it", Due.of("fair 1 0;stall 1 5 0;buyer 40 0"), 1, 40, 40);
        fairPrice("39 in it", Due.of("fair 1 0;stall 1 5 0;buyer 39 0"), 1, 39, 39);
        fairPrice("41 in it", Due.of("fair 1 0;stall 1 5 0;buyer 41 0"), 1, 40, 40);
    }

    private static void theLeastPrice() {
        fairPrice("1 in the PURSE", Due.of("fair 1 0;stall 9 5 0;buyer 1 0"), 9, 1, 1);
        fairPrice("2 in it, two MINUTES", Due.of("fair 1 0;stall 9 5 0;buyer 2 0"), 2, 1, 2);
        fairPrice("2 in it, one MINUTE", Due.of("fair 1 0;stall 9 5 0;buyer 2 0"), 1, 2, 2);
    }

    private static void ofSeveralTheLeast() {
        fairPrice("nothing to sell", Due.of("fair 1 0;stall 0 5 0;buyer 9 0"), 9, 1, 0);
        fairPrice("nobody is there", Due.of("fair 1 0;stall 9 5 0"), 9, 1, 0);
        fairPrice("an empty PURSE", Due.of("fair 1 0;stall 9 5 0;buyer 0 0"), 9, 1, 0);
        // 20 once, or 10 twice.
        fairPrice("two MINUTES", Due.of("fair 1 0;stall 9 5 0;buyer 20 0"), 2, 10, 20);
    }

    private static void theSixtiethMinute() {
        NextStall x = Edge.ruledBy("fair 1 0;stall 9 5 0;buyer 99 0", "buy 1 if day >= 59");
        fairPrice("in it", x, 60, 40, 40);
        fairPrice("ahead of it", x, 59, 1, 0);
        NextStall y = Edge.ruledBy("fair 1 0;stall 9 5 0;buyer 99 0", "buy 1 if day >= 1");
        fairPrice("in the first", y, 1, 1, 0);
        fairPrice("in the second", y, 2, 40, 40);
    }

    private static void aheadOfDusk() {
        NextStall x = Due.of("fair 20 0;stall 1 5 0;buyer 99 0");
        fairPrice("nothing is handed on", x, 19, 1, 0);
        fairPrice("at DUSK", x, 20, 40, 40);
    }

    private static void inPlaceOfWhatItIs() {
        NextStall x = Due.of("fair 1 0;stall 9 5 0;buyer 25 0");
        x.minute();
        fairPrice("with what it has", x, 1, 20, 25);
        Due.is("PRICE", x.stall(0, 1), 5);
        x.price(0, 40);
        fairPrice("whatever it is", x, 1, 20, 25);
    }

    private static void nothingChanges() {
        Edge.unchanged("fairPrice(2, 60, 0)", Edge.rich().fairPrice(2, 60, 0), Edge::rich, x -> x.fairPrice(2, 60, 0));
        Edge.unchanged("fairPrice(2, 60, 1)", Edge.rich().fairPrice(2, 60, 1), Edge::rich, x -> x.fairPrice(2, 60, 1));
    }
}
