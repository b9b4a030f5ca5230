/** Promise 6, what a RULE IN FORCE says: WORDS at their edges, division by 0, rounds in 64 bits, no CLAUSE that holds. */
public final class Promise06RuleWordsTest {
    /** 2 to the 63rd, which is the least number there is, as it goes round. */
    private static final String LEAST = "65536*65536*65536*32768";

    public static void main(String[] args) {
        byNought();
        roundIn64Bits();
        towardsNought();
        notAndOr();
        tenDeep();
        aSumAboveNought();
        theGreatestSumThereIs();
        zeroWithoutAClause();
        theFirstClauseThatHolds();
        wordsOfNumbers();
        wordsOfGoods();
        cameAndGrudge();
        minuteAndDay();
        Due.end();
    }

    /** Whether the only goods are bought in minute 0. */
    private static void holds(String test, boolean due) {
        Due.is("if " + test, Edge.ruledBy(Edge.ONE_A_DAY, "buy 1 if " + test).minute(), due ? 1 : 0);
    }

    private static void byNought() {
        holds("7 / 0 = 0", true);
        holds("7 % 0 = 0", true);
        holds("0 / 0 = 0", true);
        holds("0 % 0 = 0", true);
        holds("7 / day = 0", true);
        holds("7 % day = 0", true);
        holds("1 + 7 / 0 * 3 + 1 = 2", true);
        holds(LEAST + " / 0 = 0", true);
        holds(LEAST + " % 0 = 0", true);
        holds("7 / 1 = 7", true);
        holds("7 % 1 = 0", true);
    }

    private static void roundIn64Bits() {
        holds(LEAST + " < 0", true);
        holds(LEAST + " - 1 > 0", true);
        holds(LEAST + " * 2 = 0", true);
        holds(LEAST + " + " + LEAST + " = 0", true);
        holds("0 - " + LEAST + " < 0", true);
        holds("0 - " + LEAST + " = " + LEAST, true);
        holds("65536*65536 > 65535", true);
        holds("65536*32768 > 0", true);
        holds("65536*65536*65536*16384 > 0", true);
        holds(LEAST + " < " + LEAST + " - 1", true);
    }

    private static void towardsNought() {
        holds("7 / 2 = 3", true);
        holds("1 / 2 = 0", true);
        holds(LEAST + " / 3 * 3 = " + LEAST + " + 2", true);
        holds(LEAST + " % 3 = 0 - 2", true);
        holds(LEAST + " % 2 = 0", true);
        holds("7 % 7 = 0", true);
        holds("6 % 7 = 6", true);
    }

    private static void notAndOr() {
        String[] facts = {"1 = 2", "1 = 1"};
        for (int a = 0; a < 2; a++) {
            holds("not " + facts[a], a == 0);
            holds("not not " + facts[a], a == 1);
            for (int b = 0; b < 2; b++) {
                holds(facts[a] + " and " + facts[b], a + b == 2);
                holds(facts[a] + " or " + facts[b], a + b > 0);
                holds("not " + facts[a] + " and " + facts[b], a == 0 && b == 1);
                holds(facts[a] + " or not " + facts[b], a == 1 || b == 0);
                holds("not [" + facts[a] + " and " + facts[b] + "]", a + b < 2);
                for (int c = 0; c < 2; c++) {
                    holds(facts[a] + " or " + facts[b] + " and " + facts[c], a == 1 || b + c == 2);
                    holds("[" + facts[a] + " or " + facts[b] + "] and " + facts[c], a + b > 0 && c == 1);
                }
            }
        }
    }

    private static void tenDeep() {
        holds("not ".repeat(10) + "1 = 1", true);
        holds("not ".repeat(9) + "1 = 1", false);
        holds("not [".repeat(5) + "1 = 1" + "]".repeat(5), false);
        holds("[".repeat(10) + "1 = 1" + "]".repeat(10), true);
        holds("1 = 2 or " + "[1 = 1 and ".repeat(10) + "1 = 1" + "]".repeat(10), true);
        holds("1 = 2 or " + "[1 = 1 and ".repeat(10) + "1 = 2" + "]".repeat(10), false);
        // A VALUE, then as many as there may be: each sign and each VALUE counts.
        holds("1" + "+1".repeat(56) + " = 57", true);
        holds("1" + "+1".repeat(56) + " = 58", false);
    }

    private static void aSumAboveNought() {
        Due.is("1", Edge.ruledBy(Edge.ONE_A_DAY, "buy 1").minute(), 1);
        Due.is("0", Edge.ruledBy(Edge.ONE_A_DAY, "buy 0").minute(), 0);
        Due.is("-1", Edge.ruledBy(Edge.ONE_A_DAY, "buy 0 - 1").minute(), 0);
        Due.is("the least", Edge.ruledBy(Edge.ONE_A_DAY, "buy " + LEAST).minute(), 0);
        Due.is("the most", Edge.ruledBy(Edge.ONE_A_DAY, "buy " + LEAST + " - 1").minute(), 1);
        // In 32 bits this would be 0.
        Due.is("2 to the 32nd", Edge.ruledBy(Edge.ONE_A_DAY, "buy 65536 * 65536").minute(), 1);
    }

    private static void theGreatestSumThereIs() {
        String two = "fair 1 0;stall 9 3 0;stall 9 5 0;buyer 99 0";
        Due.is("the second is greater", Edge.ruledBy(two, "buy 1 + stall").minute(), 5);
        Due.is("alike, the least", Edge.ruledBy(two, "buy 7").minute(), 3);
        Due.is("the most there is, and 1 less", Edge.ruledBy(two, "buy " + LEAST + " - 1 - 1 + stall").minute(), 5);
        Due.is("one that goes round", Edge.ruledBy(two, "buy " + LEAST + " - 1 + stall").minute(), 3);
        Due.is("one above 0 alone", Edge.ruledBy(two, "buy stall").minute(), 5);
        Due.is("none above 0", Edge.ruledBy(two, "buy 0 - stall").minute(), 0);
    }

    private static void zeroWithoutAClause() {
        Due.is("no TEST holds", Edge.ruledBy(Edge.ONE_A_DAY, "buy 9 if 1 = 2").minute(), 0);
        Due.is("none of twelve", Edge.ruledBy(Edge.ONE_A_DAY, "buy 9 if 1 = 2;".repeat(11) + "buy 9 if 1 = 2").minute(), 0);
        Due.is("the twelfth", Edge.ruledBy(Edge.ONE_A_DAY, "buy 9 if 1 = 2;".repeat(11) + "buy 9").minute(), 1);
    }

    private static void theFirstClauseThatHolds() {
        Due.is("the first says 0", Edge.ruledBy(Edge.ONE_A_DAY, "buy 0;buy 9").minute(), 0);
        Due.is("the first says 9", Edge.ruledBy(Edge.ONE_A_DAY, "buy 9;buy 0").minute(), 1);
        Due.is("the first does not hold", Edge.ruledBy(Edge.ONE_A_DAY, "buy 0 if 1 > 1;buy 9").minute(), 1);
        Due.is("a TEST that holds", Edge.ruledBy(Edge.ONE_A_DAY, "buy 0 if 1 >= 1;buy 9").minute(), 0);
    }

    private static void wordsOfNumbers() {
        String fair = "fair 1 0" + ";stall 1 1 0".repeat(6) + ";buyer 0 0".repeat(5) + ";buyer 99 5";
        Due.is("the last BUYER", Edge.ruledBy(fair, "buy 1 if buyer = 5").minute(), 1);
        Due.is("the last STALL", Edge.ruledBy(fair, "buy 1 if stall = 5").minute(), 1);
        NextStall x = Edge.ruledBy(fair, "buy 1 if stall = 5 and buyer = 5 and purse = 99 and price = 1");
        Due.is("both", x.minute(), 1);
        Due.is("had", x.had(5, 5), 1);
        NextStall first = Edge.ruledBy(Edge.ONE_A_DAY, "buy 1 if buyer = 0 and stall = 0 and purse = 99");
        Due.is("the first of both", first.minute(), 1);
        Due.is("PURSE is less then", first.minute(), 0);
        first.earn(0, 1);
        Due.is("and as it was again", first.minute(), 1);
    }

    private static void wordsOfGoods() {
        Due.is("the first of 20", Edge.ruledBy(Edge.ONE_A_DAY, "buy 1 if goods = 20 and sold = 0 and had = 0").taken(9), 1);
        NextStall x = Edge.ruledBy(Edge.ONE_A_DAY, "buy 1 if goods + sold = 20 and sold = had");
        Due.is("all of them", x.taken(100), 20);
        NextStall last = Due.of(Edge.ONE_A_DAY, "buy 1 if goods = 1 and sold = 19 and had = 19");
        for (int i = 0; i < 19; i++) {
            last.minute();
        }
        last.force(0);
        Due.is("the last of 20", last.minute(), 1);
        Due.is("none is left", last.minute(), 0);
        // What another one bought was sold, but this one had none of it.
        String two = "fair 1 0;stall 9 1 0;buyer 9 0;buyer 9 0";
        Due.is("sold", Edge.ruledBy(two, "buy 1 if sold = buyer").taken(1), 2);
        Due.is("had", Edge.ruledBy(two, "buy 1 if had = 0").taken(9), 2);
    }

    private static void cameAndGrudge() {
        String fair = "fair 1 0;stall 9 1 7;stall 9 2 5;stall 9 4 1;grudge 0 1;grudge 0 2;grudge 1 0;grudge 2 1;buyer 99 1";
        Due.is("came for these", Edge.ruledBy(fair, "buy 1 if came = 1").minute(), 2);
        Due.is("came for others", Edge.ruledBy(fair, "buy stall + 1 if came = 0").minute(), 4);
        // Who sells 1's bears one against 1; the others bear theirs against those whose goods they don't sell.
        Due.is("a grudge", Edge.ruledBy(fair, "buy stall + 1 if grudge = 1").minute(), 2);
        Due.is("no grudge", Edge.ruledBy(fair, "buy stall + 1 if grudge = 0").minute(), 4);
        Due.is("no other number", Edge.ruledBy(fair, "buy 1 if grudge > 1 or came > 1").minute(), 0);
        Due.is("PRAISE is halved, downwards", Edge.ruledBy(fair, "buy 1 if praise = 3").minute(), 2);
    }

    private static void minuteAndDay() {
        String fair = "fair 20 0;stall 20 1 0;buyer 99 0";
        Due.is("the last MINUTE of a day", Edge.ruledBy(fair, "buy 1 if minute = 19").taken(100), 5);
        Due.is("no MINUTE 20", Edge.ruledBy(fair, "buy 1 if minute >= 20").taken(100), 0);
        Due.is("the first of a day", Edge.ruledBy(fair, "buy 1 if minute = 0").taken(100), 5);
        Due.is("day 0 ends", Edge.ruledBy(fair, "buy 1 if day = 0 and minute = 19").taken(20), 1);
        Due.is("day 1 begins", Edge.ruledBy(fair, "buy 1 if day = 1 and minute = 0").taken(21), 1);
        Due.is("and not ahead of it", Edge.ruledBy(fair, "buy 1 if day = 1").taken(20), 0);
        Due.is("of one MINUTE", Edge.ruledBy(Edge.ONE_A_DAY, "buy 1 if minute = 0").taken(20), 20);
        Due.is("of one MINUTE", Edge.ruledBy(Edge.ONE_A_DAY, "buy 1 if day = 19").taken(20), 1);
    }
}
