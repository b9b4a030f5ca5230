/** Promise 33, rains: m times (1 to 10) n MINUTES (1 to 60), nobody buys below p (0 to 100); NONE without these. */
public final class Promise33RainsTest {
    public static void main(String[] args) {
        withoutAFair();
        times1To10();
        minutes1To60();
        chances0To100();
        whats0To1();
        neverAndAlways();
        onceAndTenTimes();
        theSixtiethMinute();
        belowP();
        aDrawIsDownwards();
        drawsGoRound();
        drawsGoOnFromTimeToTime();
        minutesGoOnInTheRain();
        nobodyThere();
        nothingChanges();
        Due.end();
    }

    private static void rains(String name, NextStall x, int[] mnp, int taken, int left) {
        Due.is(name + ": TAKEN", x.rains(mnp[0], mnp[1], mnp[2], 0), taken);
        Due.is(name + ": left", x.rains(mnp[0], mnp[1], mnp[2], 1), left);
    }

    private static int[] mnp(int m, int n, int p) {
        return new int[] {m, n, p};
    }

    private static void withoutAFair() {
        rains("without a FAIR", new NextStall(), mnp(1, 1, 0), -1, -1);
    }

    private static void times1To10() {
        Edge.refusedBeyond("m", 1, 10, -1, (x, m) -> x.rains(m, 1, 0, 0));
    }

    private static void minutes1To60() {
        Edge.refusedBeyond("n", 1, 60, -1, (x, n) -> x.rains(1, n, 0, 0));
    }

    private static void chances0To100() {
        Edge.refusedBeyond("p", 0, 100, -1, (x, p) -> x.rains(1, 1, p, 0));
    }

    private static void whats0To1() {
        Edge.refusedBeyond("what", 0, 1, -1, (x, what) -> x.rains(1, 1, 0, what));
    }

    private static void neverAndAlways() {
        NextStall x = Due.of(Edge.ONE_A_DAY);
        rains("never", x, mnp(10, 60, 0), 200, 0);
        rains("always", x, mnp(10, 60, 100), 0, 200);
        rains("never", x, mnp(1, 1, 0), 1, 19);
        rains("always", x, mnp(1, 1, 100), 0, 20);
    }

    private static void onceAndTenTimes() {
        NextStall x = Due.of(Edge.ONE_A_DAY);
        rains("once", x, mnp(1, 3, 0), 3, 17);
        rains("twice", x, mnp(2, 3, 0), 6, 34);
        rains("ten times", x, mnp(10, 3, 0), 30, 170);
    }

    private static void theSixtiethMinute() {
        NextStall x = Edge.ruledBy(Edge.ONE_A_DAY, "buy 1 if day >= 59");
        rains("in it", x, mnp(1, 60, 0), 1, 19);
        rains("ahead of it", x, mnp(1, 59, 0), 0, 20);
        rains("in it, ten times", x, mnp(10, 60, 0), 10, 190);
    }

    /** From 0 the first DRAW is 0; from 1 the DRAWS are 16838, 5758, 10113, 17515. */
    private static void belowP() {
        NextStall x = Due.of(Edge.ONE_A_DAY);
        rains("0 is below 1", x, mnp(1, 1, 1), 0, 20);
        rains("0 is not below 0", x, mnp(1, 1, 0), 1, 19);
        x.seed(1);
        rains("38 is not below 38", x, mnp(1, 1, 38), 1, 19);
        rains("38 is below 39", x, mnp(1, 1, 39), 0, 20);
        rains("13 alone is below 14", x, mnp(1, 4, 14), 3, 17);
        rains("15 is not below 15", x, mnp(1, 4, 15), 3, 17);
        rains("15 is below 16", x, mnp(1, 4, 16), 2, 18);
        rains("58 is not below 58", x, mnp(1, 4, 58), 1, 19);
        rains("58 is below 59", x, mnp(1, 4, 59), 0, 20);
    }

    private static void aDrawIsDownwards() {
        NextStall x = Due.of(Edge.ONE_A_DAY);
        // 1836426883 becomes 38 * 65536, 2126232350 one less.
        x.seed(1836426883);
        rains("38 is not below 38", x, mnp(1, 1, 38), 1, 19);
        rains("38 is below 39", x, mnp(1, 1, 39), 0, 20);
        x.seed(2126232350);
        rains("37 is not below 37", x, mnp(1, 1, 37), 1, 19);
        rains("37 is below 38", x, mnp(1, 1, 38), 0, 20);
    }

    private static void drawsGoRound() {
        NextStall x = Due.of(Edge.ONE_A_DAY);
        // 2147483647 becomes 1043980748, whose DRAW is 15929.
        x.seed(Integer.MAX_VALUE);
        rains("29 is not below 29", x, mnp(1, 1, 29), 1, 19);
        rains("29 is below 30", x, mnp(1, 1, 30), 0, 20);
        // 453612811 becomes 2147483624, whose DRAW is the most there is, 32767.
        x.seed(453612811);
        rains("67 is not below 67", x, mnp(1, 1, 67), 1, 19);
        rains("67 is below 68", x, mnp(1, 1, 68), 0, 20);
    }

    private static void drawsGoOnFromTimeToTime() {
        NextStall x = Due.of(Edge.ONE_A_DAY);
        x.seed(1);
        rains("38, then 58", x, mnp(2, 1, 40), 1, 39);
        rains("38, 58, 13", x, mnp(3, 1, 40), 1, 59);
        rains("38 and 58, then 13 and 15", x, mnp(2, 2, 40), 1, 39);
        Due.is("x as it was", x.count(12), 1);
    }

    private static void minutesGoOnInTheRain() {
        // From 1 the DRAWS mod 100 are 38, 58 and 13.
        NextStall x = Edge.ruledBy(Edge.ONE_A_DAY, "buy 1 if day = 0 or day = 2");
        x.seed(1);
        rains("MINUTES 0 and 2 are wet, in MINUTE 1 nothing is bought", x, mnp(1, 3, 39), 0, 20);
        rains("MINUTE 2 alone is wet", x, mnp(1, 3, 38), 1, 19);
        NextStall y = Edge.ruledBy(Edge.ONE_A_DAY, "buy 1 if day = 1");
        y.seed(1);
        rains("MINUTE 1 is dry behind a wet one", y, mnp(1, 3, 39), 1, 19);
    }

    private static void nobodyThere() {
        rains("no STALLS", Due.of("fair 1 0"), mnp(10, 60, 0), 0, 0);
        rains("no BUYERS", Due.of(Edge.SIX_STALLS), mnp(10, 60, 50), 0, 60);
    }

    private static void nothingChanges() {
        Edge.unchanged("rains(10, 60, 50, 0)", Edge.rich().rains(10, 60, 50, 0), Edge::rich, x -> x.rains(10, 60, 50, 0));
        Edge.unchanged("rains(10, 60, 50, 1)", Edge.rich().rains(10, 60, 50, 1), Edge::rich, x -> x.rains(10, 60, 50, 1));
    }
}
