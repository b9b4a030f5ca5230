/** Promise 18, taken: what all BUYERS pay in n MINUTES (0 to 100); NONE without these, or a FAIR. */
public final class Promise18TakenTest {
    public static void main(String[] args) {
        withoutAFair();
        minutes0To100();
        noMinutes();
        theHundredthMinute();
        nobodyThere();
        asMuchAsThereIs();
        nothingChanges();
        Due.end();
    }

    private static void withoutAFair() {
        NextStall x = new NextStall();
        Due.is("taken(0)", x.taken(0), -1);
        Due.is("taken(100)", x.taken(100), -1);
    }

    private static void minutes0To100() {
        Edge.refusedBeyond("n", 0, 100, -1, (x, n) -> x.taken(n));
    }

    private static void noMinutes() {
        Due.is("at the begin", Due.of(MinuteTest.FAIR).taken(0), 0);
        Due.is("later", Edge.rich().taken(0), 0);
    }

    private static void theHundredthMinute() {
        NextStall x = Edge.ruledBy(Edge.ONE_A_DAY, "buy 1 if day >= 99");
        Due.is("ahead of it", x.taken(99), 0);
        Due.is("in it", x.taken(100), 1);
    }

    private static void nobodyThere() {
        Due.is("no STALLS", Due.of("fair 1 0").taken(100), 0);
        Due.is("no BUYERS", Due.of(Edge.SIX_STALLS).taken(100), 0);
        Due.is("no GOODS", Due.of("fair 1 0;stall 0 1 0;buyer 9 0").taken(100), 0);
        Due.is("an empty PURSE", Due.of("fair 1 0;stall 9 1 0;buyer 0 0").taken(100), 0);
    }

    private static void asMuchAsThereIs() {
        Due.is("all GOODS", Due.of(Edge.ONE_A_DAY).taken(100), 20);
        Due.is("all PURSES", Due.of("fair 1 0" + ";stall 20 11 0".repeat(6) + ";buyer 99 0".repeat(6)).taken(100), 594);
    }

    private static void nothingChanges() {
        Edge.unchanged("taken(100)", Edge.rich().taken(100), Edge::rich, x -> x.taken(100));
    }
}
