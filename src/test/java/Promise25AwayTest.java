/** Promise 25, away: the BUYER who had best buy nothing in n MINUTES (1 to 40), NONE: nobody; -2 without these, or a FAIR. */
public final class Promise25AwayTest {
    public static void main(String[] args) {
        withoutAFair();
        minutes1To40();
        whats0To1();
        nobodyThere();
        ofSeveralNobody();
        ofSeveralTheLeast();
        theFirstAndTheLastOfSix();
        theFortiethMinute();
        nothingChanges();
        Due.end();
    }

    private static void away(String name, NextStall x, int n, int who, int much) {
        Due.is(name + ": who", x.away(n, 0), who);
        Due.is(name + ": how much", x.away(n, 1), much);
    }

    private static void withoutAFair() {
        away("without a FAIR", new NextStall(), 1, -2, -2);
    }

    private static void minutes1To40() {
        Edge.refusedBeyond("n", 1, 40, -2, (x, n) -> x.away(n, 0));
    }

    private static void whats0To1() {
        Edge.refusedBeyond("what", 0, 1, -2, (x, what) -> x.away(1, what));
    }

    private static void nobodyThere() {
        away("no STALLS", Due.of("fair 1 0"), 40, -1, 0);
        away("no BUYERS", Due.of(Edge.SIX_STALLS), 40, -1, 0);
        away("one", Due.of(Edge.ONE_A_DAY), 40, -1, 20);
    }

    private static void ofSeveralNobody() {
        away("an empty PURSE", Due.of("fair 1 0;stall 9 1 0;buyer 0 0;buyer 5 0"), 1, -1, 1);
        away("one piece", Due.of("fair 1 0;stall 1 1 0;buyer 5 0;buyer 5 0"), 1, -1, 1);
    }

    private static void ofSeveralTheLeast() {
        String fair = "fair 1 0;stall 2 1 0;stall 1 5 0;stall 1 9 0;buyer 1 0;buyer 1 0;buyer 10 0";
        NextStall x = Edge.ruledBy(fair, "buy 100 if stall = 0;buy 50 if stall = 1 and purse > 9;buy 20 if stall = 2");
        // The third gets a cheap one only if one of the first two is away: then it has 9 left for the dear one.
        Due.is("as it is", x.taken(2), 7);
        away("one of two", x, 2, 0, 11);
        away("not in one MINUTE", x, 1, -1, 7);
    }

    /** If that one buys, the other never does. */
    private static String spoils(int one, int other) {
        return "buy 1 if buyer = " + one + " and sold = 0;buy 1 if buyer = " + other + " and day >= 1 and sold = had";
    }

    private static void theFirstAndTheLastOfSix() {
        String six = "fair 1 0;stall 20 1 0" + ";buyer 99 0".repeat(6);
        away("the last", Edge.ruledBy(six, spoils(5, 0)), 5, 5, 4);
        away("the first", Edge.ruledBy(six, spoils(0, 5)), 5, 0, 4);
        away("alike", Edge.ruledBy(six, spoils(0, 5)), 2, -1, 1);
    }

    private static void theFortiethMinute() {
        NextStall x = Edge.ruledBy(Edge.ONE_A_DAY, "buy 1 if day >= 39");
        away("in it", x, 40, -1, 1);
        away("ahead of it", x, 39, -1, 0);
        String two = "fair 1 0;stall 20 1 0;buyer 99 0;buyer 99 0";
        NextStall y = Edge.ruledBy(two, "buy 1 if buyer = 0 and sold = 0;buy 1 if buyer = 1 and day >= 38 and sold = had");
        away("in it", y, 40, 0, 2);
        away("ahead of it", y, 39, -1, 1);
    }

    private static void nothingChanges() {
        Edge.unchanged("away(40, 0)", Edge.rich().away(40, 0), Edge::rich, x -> x.away(40, 0));
        Edge.unchanged("away(40, 1)", Edge.rich().away(40, 1), Edge::rich, x -> x.away(40, 1));
    }
}
