/** Promise 30, look: the STALL by whose TILL the RULES part best behind MINUTE n (0 to 60); -2: none; NONE without these. */
public final class Promise30LookTest {
    private static final String TWO = "fair 20 0;stall 20 1 0;stall 20 2 0;buyer 99 0";

    public static void main(String[] args) {
        withoutAFair();
        minutes0To60();
        whats0To1();
        noStalls();
        noRuleIsSo();
        withoutRules();
        sevenApartAndSevenAlike();
        fewestOfTheMostAlike();
        ofSeveralTheLeast();
        behindMinute0AndMinute60();
        ofSixTheLast();
        nothingChanges();
        Due.end();
    }

    private static void look(String name, NextStall x, int n, int stall, int many) {
        Due.is(name + ": the STALL", x.look(n, 0), stall);
        Due.is(name + ": how many", x.look(n, 1), many);
    }

    private static void withoutAFair() {
        look("without a FAIR", new NextStall(), 0, -1, -1);
    }

    private static void minutes0To60() {
        Edge.refusedBeyond("n", 0, 60, -1, (x, n) -> x.look(n, 0));
    }

    private static void whats0To1() {
        Edge.refusedBeyond("what", 0, 1, -1, (x, what) -> x.look(0, what));
    }

    private static void noStalls() {
        NextStall x = Due.of("fair 1 0", "buy 1");
        look("no STALLS", x, 0, -2, -2);
        look("no STALLS", x, 60, -2, -2);
        Due.is("n 61", x.look(61, 0), -1);
    }

    private static void noRuleIsSo() {
        NextStall x = Due.of(TWO, "buy 1", "buy 0");
        x.note(0, 0, 9999);
        look("no RULE is so", x, 0, -2, -2);
        look("no RULE is so", x, 60, -2, -2);
        Due.is("n 61", x.look(61, 0), -1);
    }

    private static void withoutRules() {
        look("none alone", Due.of(TWO), 0, 0, 1);
        look("none alone", Due.of(TWO), 60, 0, 1);
    }

    private static void sevenApartAndSevenAlike() {
        NextStall x = Due.of("fair 20 0;stall 20 1 0;buyer 99 0", "buy 1 if had < 1", "buy 1 if had < 2",
                "buy 1 if had < 3", "buy 1 if had < 4", "buy 1 if had < 5", "buy 1 if had < 6");
        look("all alike behind MINUTE 0", x, 0, 0, 7);
        look("six behind MINUTE 1", x, 1, 0, 6);
        look("two behind MINUTE 5", x, 5, 0, 2);
        look("no two behind MINUTE 6", x, 6, 0, 1);
        look("all alike at DUSK", x, 19, 0, 7);
    }

    private static void fewestOfTheMostAlike() {
        // 0's are sold by 1, 1's by 0. TILLS behind MINUTE 0: 0 1 by none, 2 0, 2 0 and 0 0.
        NextStall x = Due.of(TWO, "buy stall", "buy stall * 2", "buy 0");
        look("0: two and two, 1: three and one", x, 0, 0, 2);
        x.note(0, 0, 0);
        look("0: two, 1: one and one", x, 0, 1, 1);
    }

    private static void ofSeveralTheLeast() {
        NextStall x = Due.of(TWO, "buy stall");
        look("both part", x, 0, 0, 1);
        NextStall alike = Due.of(TWO, "buy 1");
        look("neither parts", alike, 0, 0, 2);
    }

    private static void behindMinute0AndMinute60() {
        NextStall x = Due.of("fair 20 0;stall 20 1 0;buyer 99 0", "buy 1 if day = 3");
        look("behind MINUTE 0", x, 0, 0, 1);
        look("at DUSK", x, 59, 0, 2);
        look("behind MINUTE 60", x, 60, 0, 1);
    }

    private static void ofSixTheLast() {
        NextStall x = Due.of("fair 20 0" + ";stall 9 1 0".repeat(6) + ";buyer 9 0", "buy 1 if stall = 0", "buy 0");
        // 5 sells 0's goods: without a RULE and by the first one it has 1, by the second nothing.
        look("the last parts", x, 0, 5, 2);
    }

    private static void nothingChanges() {
        Edge.unchanged("look(60, 0)", Edge.rich().look(60, 0), Edge::rich, x -> x.look(60, 0));
        Edge.unchanged("look(60, 1)", Edge.rich().look(60, 1), Edge::rich, x -> x.look(60, 1));
    }
}
