/** Promise 10, minute: what is paid in it; NONE, and nothing happens, without a FAIR, or in MINUTE 999. */
public final class Promise10MinuteTest {
    public static void main(String[] args) {
        withoutAFair();
        inMinute999();
        nobodyThere();
        buyersByNumbersEachByHowAllIsThen();
        ofSeveralTheLeast();
        withoutARuleNoPraiseIsEnough();
        threeMore();
        whatOneBuys();
        duskOfALongAndAShortDay();
        keepsDownwards();
        handedOnAllAtOnce();
        theRingGoesRoundAtDusk();
        everythingIsSold();
        Due.end();
    }

    private static void withoutAFair() {
        NextStall x = new NextStall();
        x.seed(3);
        Due.is("without a FAIR", x.minute(), -1);
        Due.is("MINUTE", x.count(6), 0);
        Due.is("ACTS", x.count(11), 0);
        Due.is("x", x.count(12), 3);
    }

    /** By hand no object gets so far within its 512 calls; the limit stands all the same. */
    private static void inMinute999() {
        NextStall x = Due.of("fair 7 0;stall 1 1 0;buyer 1 0", "buy 1 if day = 143", "buy 1");
        x.force(0);
        for (int i = 0; i < 998; i++) {
            x.minute();
        }
        Due.is("MINUTE", x.count(6), 998);
        Due.is("MINUTE 998 is the last by hand", x.minute(), 0);
        Due.is("MINUTE", x.count(6), 999);
        x.force(1);
        Due.is("in MINUTE 999", x.minute(), -1);
        Due.is("MINUTE", x.count(6), 999);
        Due.is("nothing is bought", x.stall(0, 0), 1);
        Due.is("ACTS", x.count(11), 20);
        Due.is("MINUTES that are asked go on", x.taken(1), 1);
        Due.is("MINUTES that are asked go on", x.out(0), 1000);
        Due.is("undone", x.undo(), 19);
        Due.is("MINUTE", x.count(6), 998);
        Due.is("MINUTE 998 again", x.minute(), 1);
    }

    private static void nobodyThere() {
        NextStall x = Due.of("fair 1 0");
        Due.is("no STALLS, no BUYERS", x.minute(), 0);
        Due.is("MINUTE", x.count(6), 1);
        Due.is("ACTS", x.count(11), 1);
        NextStall y = Due.of(Edge.SIX_STALLS);
        Due.is("no BUYERS", y.minute(), 0);
        Due.is("GOODS", y.count(7), 6);
    }

    private static void buyersByNumbersEachByHowAllIsThen() {
        NextStall x = Due.of("fair 9 0;stall 2 3 5;stall 1 4 5;buyer 9 0;buyer 9 0;buyer 9 0;buyer 9 0");
        // Two get 0's, the third the only one of 1's, nothing is left for the fourth.
        Due.is("paid", x.minute(), 3 + 3 + 4);
        int[] first = {1, 1, 0, 0};
        int[] second = {0, 0, 1, 0};
        for (int buyer = 0; buyer < 4; buyer++) {
            Due.is("had of 0's", x.had(buyer, 0), first[buyer]);
            Due.is("had of 1's", x.had(buyer, 1), second[buyer]);
        }
    }

    private static void ofSeveralTheLeast() {
        NextStall x = Due.of("fair 9 0" + ";stall 1 1 4".repeat(6) + ";buyer 9 5");
        int[] order = {5, 0, 1, 2, 3, 4};
        for (int stall : order) {
            x.minute();
            Due.is("what they came for, then the least: " + stall, x.had(0, stall), 1);
        }
    }

    private static void withoutARuleNoPraiseIsEnough() {
        Due.is("PRAISE 0, too", Due.of("fair 1 0;stall 1 1 0;stall 0 1 0;buyer 1 1").minute(), 1);
    }

    private static void threeMore() {
        int[] due = {9, 9, 9, 4, 4};
        for (int less = 0; less < due.length; less++) {
            // 1 praises 0's goods so much more than 0 praises 1's, for which they came; alike at 3: then 0's, the least.
            NextStall x = Due.of("fair 1 0;stall 1 4 5;stall 1 9 " + (5 + less) + ";buyer 20 1");
            Due.is(less + " more for the others", x.minute(), due[less]);
        }
    }

    private static void whatOneBuys() {
        NextStall x = Due.of("fair 9 0;stall 2 3 5;stall 1 4 6;stall 1 40 9;buyer 7 0");
        Due.is("paid", x.minute(), 3);
        Due.is("GOODS 1 less", x.stall(0, 0), 1);
        Due.is("others' GOODS", x.stall(1, 0), 1);
        Due.is("PURSE the PRICE less", x.buyer(0, 0), 4);
        Due.is("TILL of who sells it", x.stall(2, 2), 3);
        Due.is("TILL of whose they are", x.stall(0, 2), 0);
        Due.is("no WEALTH ahead of DUSK", x.count(8), 0);
        Due.is("MINUTE is 1 more", x.count(6), 1);
        Due.is("a second one", x.minute(), 3);
        Due.is("the last one of these", x.stall(0, 0), 0);
        Due.is("1 is left in the PURSE", x.minute(), 0);
        Due.is("PURSE", x.buyer(0, 0), 1);
    }

    private static void duskOfALongAndAShortDay() {
        NextStall x = Due.of("fair 20 0;stall 20 1 0;buyer 99 0");
        for (int i = 1; i <= 19; i++) {
            x.minute();
            Due.is("TILL ahead of DUSK", x.stall(0, 2), i);
            Due.is("WEALTH ahead of DUSK", x.stall(0, 3), 0);
        }
        x.minute();
        Due.is("TILL behind DUSK", x.stall(0, 2), 0);
        Due.is("WEALTH behind DUSK", x.stall(0, 3), 20);
        NextStall y = Due.of(Edge.ONE_A_DAY);
        for (int i = 1; i <= 3; i++) {
            y.minute();
            Due.is("TILL, each MINUTE a day", y.stall(0, 2), 0);
            Due.is("WEALTH, each MINUTE a day", y.stall(0, 3), i);
        }
    }

    private static void keepsDownwards() {
        int[][] rows = {{0, 40, 0}, {1, 9, 0}, {1, 10, 1}, {1, 19, 1}, {9, 1, 0}, {9, 2, 1}, {9, 9, 8}, {9, 10, 9},
            {9, 11, 9}, {9, 40, 36}, {5, 1, 0}, {5, 39, 19}};
        for (int[] row : rows) {
            // 1 sells 0's goods.
            NextStall x = Due.of("fair 1 " + row[0] + ";stall 1 " + row[1] + " 0;stall 0 1 0;buyer 99 0");
            x.minute();
            Due.is(row[0] + " tenths of " + row[1] + " are kept", x.stall(1, 3), row[2]);
            Due.is("the rest goes to whose they were", x.stall(0, 3), row[1] - row[2]);
            Due.is("all TILLS", x.count(9), 0);
        }
    }

    private static void handedOnAllAtOnce() {
        // Each of three has 10 in its TILL, keeps 5, and hands 5 on: what it is handed is not handed on.
        NextStall x = Due.of("fair 1 5;stall 1 10 0;stall 1 10 0;stall 1 10 0;buyer 10 0;buyer 10 1;buyer 10 2");
        Due.is("paid", x.minute(), 30);
        for (int stall = 0; stall < 3; stall++) {
            Due.is("WEALTH", x.stall(stall, 3), 10);
            Due.is("TILL", x.stall(stall, 2), 0);
        }
    }

    private static void theRingGoesRoundAtDusk() {
        NextStall x = Due.of("fair 1 4;stall 1 10 0;stall 0 1 0;stall 0 1 0;buyer 10 0");
        x.minute();
        Due.is("the last one sold and kept", x.stall(2, 3), 4);
        Due.is("the first one stands behind it", x.stall(0, 3), 6);
        NextStall alone = Due.of("fair 1 4;stall 1 10 0;buyer 10 0");
        alone.minute();
        Due.is("alone it keeps all", alone.stall(0, 3), 10);
    }

    private static void everythingIsSold() {
        NextStall x = Due.of("fair 20 9" + ";stall 20 1 0".repeat(6) + ";buyer 99 0".repeat(6));
        for (int i = 0; i < 20; i++) {
            Due.is("six in each MINUTE", x.minute(), 6);
        }
        Due.is("nothing is left", x.count(7), 0);
        Due.is("WEALTH of all", x.count(8), 120);
        Due.is("then nothing is paid", x.minute(), 0);
    }
}
