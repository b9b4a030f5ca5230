/** Promise 23, commission: KEEPS, 0 to 9, by which WEALTH is most in n MINUTES (1 to 60); NONE without these. */
public final class Promise23CommissionTest {
    /** 1 sells 0's goods. */
    private static final String TWO = "fair 1 5;stall 9 10 1;stall 0 7 0;buyer 10 0";

    public static void main(String[] args) {
        stallsThatThereAre();
        minutes1To60();
        whats0To1();
        theMostAndTheLeast();
        ofSeveralTheLeast();
        theSixtiethMinute();
        aheadOfDusk();
        inPlaceOfWhatItIs();
        nothingChanges();
        Due.end();
    }

    private static void commission(String name, NextStall x, int stall, int n, int keeps, int much) {
        Due.is(name + ": KEEPS", x.commission(stall, n, 0), keeps);
        Due.is(name + ": how much", x.commission(stall, n, 1), much);
    }

    private static void stallsThatThereAre() {
        Edge.refusedBeyond("stall", 0, 2, -1, (x, stall) -> x.commission(stall, 1, 0));
        Due.is("no STALLS", Due.of("fair 1 0").commission(0, 1, 0), -1);
        NextStall six = Due.of(Edge.SIX_STALLS);
        Due.is("of six the last one", six.commission(5, 1, 0), 0);
        Due.is("a seventh", six.commission(6, 1, 0), -1);
    }

    private static void minutes1To60() {
        Edge.refusedBeyond("n", 1, 60, -1, (x, n) -> x.commission(0, n, 0));
    }

    private static void whats0To1() {
        Edge.refusedBeyond("what", 0, 1, -1, (x, what) -> x.commission(0, 1, what));
    }

    private static void theMostAndTheLeast() {
        commission("who sells", Due.of(TWO), 1, 1, 9, 9);
        commission("whose they are", Due.of(TWO), 0, 1, 0, 10);
    }

    private static void ofSeveralTheLeast() {
        commission("nobody is there", Due.of("fair 1 5;stall 9 5 0;stall 9 5 0"), 1, 9, 0, 0);
        commission("alone all is its own", Due.of("fair 1 5;stall 9 5 0;buyer 5 0"), 0, 9, 0, 5);
        NextStall x = Due.of(TWO);
        x.price(0, 1);
        commission("of 1 nothing is kept", x, 1, 1, 0, 0);
        commission("of 1 all is handed on", x, 0, 1, 0, 1);
        x.price(0, 2);
        // Of 2 there is 1 kept by 5 tenths or more.
        commission("5 tenths of 2", x, 1, 1, 5, 1);
        commission("up to 4 tenths of 2", x, 0, 1, 0, 2);
    }

    private static void theSixtiethMinute() {
        NextStall x = Edge.ruledBy(TWO, "buy 1 if day >= 59");
        commission("in it", x, 1, 60, 9, 9);
        commission("ahead of it", x, 1, 59, 0, 0);
        NextStall y = Edge.ruledBy(TWO, "buy 1 if day >= 1");
        commission("in the first", y, 1, 1, 0, 0);
        commission("in the second", y, 1, 2, 9, 9);
    }

    private static void aheadOfDusk() {
        NextStall x = Due.of("fair 20 5;stall 9 10 1;stall 0 7 0;buyer 10 0");
        commission("nothing is handed on", x, 1, 19, 0, 0);
        commission("at DUSK", x, 1, 20, 9, 9);
    }

    private static void inPlaceOfWhatItIs() {
        NextStall x = Due.of(TWO);
        x.earn(0, 10);
        x.minute();
        Due.is("WEALTH", x.stall(1, 3), 5);
        commission("with what it has", x, 1, 1, 9, 14);
        Due.is("KEEPS", x.count(1), 5);
    }

    private static void nothingChanges() {
        Edge.unchanged("commission(1, 60, 0)", Edge.rich().commission(1, 60, 0), Edge::rich, x -> x.commission(1, 60, 0));
        Edge.unchanged("commission(1, 60, 1)", Edge.rich().commission(1, 60, 1), Edge::rich, x -> x.commission(1, 60, 1));
    }
}
