import java.math.BigInteger;

/** Promise 6, force, and what rules say. */
public final class RuleTest {
    private static final String ONE_STALL = "fair 1 0;stall 20 1 0;buyer 99 0";

    public static void main(String[] args) {
        forces();
        sums();
        tests();
        roundIn64Bits();
        clauses();
        wordsOfBuyerAndStall();
        wordsOfTime();
        wordsOfWhatWasSold();
        theGreatest();
        Due.end();
    }

    private static void forces() {
        NextStall x = Due.of(ONE_STALL, "buy 0", "buy 1");
        Due.is("force(2)", x.force(2), -2);
        Due.is("force(-2)", x.force(-2), -2);
        Due.is("force(least)", x.force(Integer.MIN_VALUE), -2);
        Due.is("none IN FORCE", x.count(5), -1);
        Due.is("without a RULE", x.minute(), 1);
        Due.is("force(0)", x.force(0), -1);
        Due.is("buy 0", x.minute(), 0);
        Due.is("force(1)", x.force(1), 0);
        Due.is("buy 1", x.minute(), 1);
        Due.is("force(1) again", x.force(1), 1);
        Due.is("force(NONE)", x.force(-1), 1);
        Due.is("none IN FORCE", x.count(5), -1);
        Due.is("no ACT", x.count(11), 3);
    }

    /** Whether the only buyer buys the only goods. */
    private static void holds(String test, boolean due) {
        NextStall x = Due.of(ONE_STALL, "buy 1 if " + test);
        x.force(0);
        Due.is("if " + test, x.minute(), due ? 1 : 0);
    }

    private static void sums() {
        holds("2 + 3 * 4 = 14", true);
        holds("10 - 3 - 4 = 3", true);
        holds("100 / 7 / 2 = 7", true);
        holds("100 % 7 * 3 = 6", true);
        holds("7 / 2 = 3", true);
        holds("5 / 0 = 0", true);
        holds("5 % 0 = 0", true);
        holds("3 - 5 < 0", true);
        holds("3 - 5 = 0", false);
        holds("1 - 2 * 3 + 9 = 4", true);
        holds("99999 - 1 + 1 = 99999", true);
    }

    private static void tests() {
        int[][] twos = {{1, 2}, {2, 2}, {3, 2}};
        for (int[] two : twos) {
            holds(two[0] + " < " + two[1], two[0] < two[1]);
            holds(two[0] + " <= " + two[1], two[0] <= two[1]);
            holds(two[0] + " = " + two[1], two[0] == two[1]);
            holds(two[0] + " >= " + two[1], two[0] >= two[1]);
            holds(two[0] + " > " + two[1], two[0] > two[1]);
            holds("not " + two[0] + " > " + two[1], two[0] <= two[1]);
        }
        holds("1=1 or 1=2 and 1=3", true);
        holds("[1=1 or 1=2] and 1=3", false);
        holds("1=3 and 1=2 or 1=1", true);
        holds("1=1 and 2=2 and 3=3", true);
        holds("1=1 and 2=3 and 3=3", false);
        holds("1=2 or 2=3 or 3=3", true);
        holds("not 1=1 or 1=1", true);
        holds("not [1=1 or 1=1]", false);
        holds("not not 1=1", true);
        holds("not not not 1=1", false);
        holds("not [1=1 and 2=3] and not 1=2", true);
    }

    private static void roundIn64Bits() {
        long power = BigInteger.valueOf(99999).pow(4).longValue();
        NextStall x = Due.of(ONE_STALL, "buy 99999*99999*99999*99999");
        x.force(0);
        Due.is("99999 ^ 4", x.minute(), power > 0 ? 1 : 0);
        long fifth = BigInteger.valueOf(99999).pow(5).longValue();
        String product = "99999*99999*99999*99999*99999";
        holds(product + " < 0", fifth < 0);
        holds(product + " / 65536 / 65536 / 65536 < 0 - " + -(fifth / 65536 / 65536 / 65536) + " + 1", true);
        holds(product + " / 65536 / 65536 / 65536 > 0 - " + -(fifth / 65536 / 65536 / 65536) + " - 1", true);
        holds(product + " % 1000 = 0 - " + -(fifth % 1000), true);
        holds("65536*65536*65536*32768 < 0", true);
        holds("65536*65536*65536*32768 - 1 > 0", true);
        holds("65536*65536*65536*65536 = 0", true);
    }

    private static void clauses() {
        String fair = "fair 1 0;stall 9 1 0;stall 9 2 0;stall 9 4 0;buyer 99 0";
        NextStall x = Due.of(fair, "buy 5 if stall = 1;buy 9 if stall <= 1;buy 4", "buy 0 if stall = 2;buy stall + 1",
                "buy 1 if stall = 7", "buy 1 if stall = 2");
        x.force(0);
        Due.is("the first CLAUSE whose TEST holds", x.minute(), 1);
        x.force(1);
        Due.is("the first CLAUSE says 0", x.minute(), 2);
        x.force(2);
        Due.is("0 without", x.minute(), 0);
        x.force(3);
        Due.is("for one alone", x.minute(), 4);
    }

    private static void wordsOfBuyerAndStall() {
        // Goods of 0 are sold by 2, of 1 by 0, who bears a grudge, of 2 by 1.
        String fair = "fair 1 0;stall 4 5 7;stall 3 2 9;stall 5 8 3;grudge 0 1;grudge 0 2;grudge 2 1;buyer 20 1;buyer 9 2";
        NextStall x = Due.of(fair,
                "buy 1 if buyer = 1 and stall = 2 and purse = 9 and price = 8 and praise = 9 and came = 1 and goods = 5",
                "buy 1 if stall = 1 and praise = 3 and grudge = 1",
                "buy 1 if grudge = 0 and stall = 0 and came = 0 and praise = 3",
                "buy 1 if stall = 1 and came = 1",
                "buy 1 if grudge = 1 and [stall = 0 or stall = 2]");
        for (int rule = 0; rule <= 4; rule++) {
            x.force(rule);
            Due.is("rule " + rule, x.taken(1), new int[] {8, 4, 10, 2, 0}[rule]);
        }
    }

    private static void wordsOfTime() {
        NextStall x = Due.of("fair 3 0;stall 20 1 0;buyer 99 0", "buy 1 if minute = 2 and day = 1", "buy 1 if day = 400",
                "buy 1 if minute = 0");
        x.force(0);
        Due.is("MINUTES 0 to 4", x.taken(5), 0);
        Due.is("MINUTE 5", x.taken(6), 1);
        Due.is("no more", x.taken(100), 1);
        x.force(2);
        Due.is("three mornings", x.taken(8), 3);
        Due.is("four mornings", x.taken(10), 4);
    }

    private static void wordsOfWhatWasSold() {
        String fair = "fair 1 0;stall 9 1 0;stall 9 3 0;buyer 99 0;buyer 99 1";
        NextStall x = Due.of(fair, "buy 1 if stall = 0 and sold < 3", "buy 1 if stall = 0 and had < 3",
                "buy 1 if stall = 0 and goods > 7", "buy sold + 1 if stall = 1 or had = 1");
        x.force(0);
        Due.is("sold", x.taken(9), 3);
        x.force(1);
        Due.is("had", x.taken(9), 6);
        x.force(2);
        Due.is("goods, each by how all is then", x.taken(9), 2);
        x.force(3);
        Due.is("stall 1 first", x.taken(2), 12);
    }

    private static void theGreatest() {
        String fair = "fair 1 0;stall 9 4 0;stall 9 2 0;stall 9 1 0;buyer 3 0";
        NextStall x = Due.of(fair, "buy 5", "buy 10 - price", "buy price", "buy 0 - 1", "buy 1 - stall");
        int[] due = {2, 1, 2, 0, 0};
        for (int rule = 0; rule < due.length; rule++) {
            x.force(rule);
            Due.is("rule " + rule, x.taken(1), due[rule]);
        }
    }
}
