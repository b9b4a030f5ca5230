/** Promises 7 to 10: stall, buyer, had, minute. */
public final class MinuteTest {
    static final String FAIR = "fair 3 2;stall 4 5 6;stall 3 2 9;stall 5 8 3;grudge 0 1;buyer 20 1;buyer 9 2";

    public static void main(String[] args) {
        begin();
        wrongNumbers();
        minutes();
        noPraise();
        alone();
        nobody();
        handedOnAllAtOnce();
        halfDownwards();
        threeMoreForWhatTheyCameFor();
        theLastMinute();
        Due.end();
    }

    private static void stalls(NextStall x, int what, int... due) {
        for (int i = 0; i < due.length; i++) {
            Due.is("stall(" + i + ", " + what + ")", x.stall(i, what), due[i]);
        }
    }

    private static void begin() {
        NextStall x = Due.of(FAIR);
        stalls(x, 0, 4, 3, 5);
        stalls(x, 1, 5, 2, 8);
        stalls(x, 2, 0, 0, 0);
        stalls(x, 3, 0, 0, 0);
        stalls(x, 4, 0, 1, 2);
        stalls(x, 5, 2, 0, 1);
        stalls(x, 6, 3, 3, 9);
        stalls(x, 7, 2, 0, 0);
        stalls(x, 8, 0, 0, 0);
        Due.is("PURSE", x.buyer(0, 0), 20);
        Due.is("PURSE", x.buyer(1, 0), 9);
        Due.is("came", x.buyer(0, 1), 1);
        Due.is("came", x.buyer(1, 1), 2);
        Due.is("CAN", x.buyer(0, 2), 7);
        Due.is("CAN", x.buyer(1, 2), 7);
        int[] counts = {3, 2, 3, 2, 0, -1, 0, 12, 0, 0, 0, 0, 0, 0};
        for (int what = 0; what < counts.length; what++) {
            Due.is("count(" + what + ")", x.count(what), counts[what]);
        }
    }

    private static void wrongNumbers() {
        NextStall x = Due.of(FAIR);
        int[] wrong = {-1, 3, Integer.MIN_VALUE, Integer.MAX_VALUE};
        for (int n : wrong) {
            Due.is("stall(" + n + ", 0)", x.stall(n, 0), -1);
            Due.is("had(0, " + n + ")", x.had(0, n), -1);
            Due.is("had(" + n + ", 0)", x.had(n, 0), -1);
            Due.is("buyer(" + n + ", 0)", x.buyer(n, 0), -1);
            Due.is("buyer(0, " + n + ")", x.buyer(0, n), -1);
        }
        Due.is("stall(0, 9)", x.stall(0, 9), -1);
        Due.is("stall(0, -1)", x.stall(0, -1), -1);
        Due.is("buyer(2, 0)", x.buyer(2, 0), -1);
        Due.is("had(2, 0)", x.had(2, 0), -1);
    }

    private static void minutes() {
        NextStall x = Due.of(FAIR);
        Due.is("MINUTE 0", x.minute(), 16);
        stalls(x, 0, 4, 3, 3);
        stalls(x, 2, 0, 16, 0);
        stalls(x, 8, 0, 0, 2);
        Due.is("PURSE", x.buyer(0, 0), 12);
        Due.is("PURSE", x.buyer(1, 0), 1);
        Due.is("CAN", x.buyer(1, 2), 0);
        Due.is("had", x.had(0, 2), 1);
        Due.is("had", x.had(1, 2), 1);
        Due.is("had", x.had(0, 0), 0);
        Due.is("MINUTE 1", x.minute(), 8);
        stalls(x, 2, 0, 24, 0);
        Due.is("CAN", x.buyer(0, 2), 2);
        Due.is("all TILLS", x.count(9), 24);
        Due.is("MINUTE 2", x.minute(), 2);
        stalls(x, 2, 0, 0, 0);
        stalls(x, 3, 0, 6, 20);
        Due.is("all WEALTH", x.count(8), 26);
        Due.is("all TILLS", x.count(9), 0);
        Due.is("MINUTE 3", x.minute(), 2);
        stalls(x, 2, 2, 0, 0);
        stalls(x, 0, 4, 1, 2);
        Due.is("MINUTE 4", x.minute(), 0);
        Due.is("MINUTE 5", x.minute(), 0);
        stalls(x, 3, 0, 8, 20);
        Due.is("MINUTE", x.count(6), 6);
        Due.is("GOODS", x.count(7), 7);
        Due.is("had", x.had(0, 1), 2);
        Due.is("had", x.had(0, 2), 2);
        Due.is("ACTS", x.count(11), 6);
    }

    private static void noPraise() {
        NextStall x = Due.of("fair 9 0;stall 1 3 0;stall 1 4 0;stall 1 5 3;buyer 50 2;buyer 50 1");
        // Goods of 0 are sold by 2 and praised 3, as much as those of 2 that were come for.
        Due.is("of several the least", x.minute(), 3 + 4);
        Due.is("had", x.had(0, 0), 1);
        Due.is("had", x.had(1, 1), 1);
        Due.is("what is left", x.minute(), 5);
        Due.is("had", x.had(0, 2), 1);
        Due.is("nothing is left", x.minute(), 0);
        NextStall none = Due.of("fair 9 0;stall 1 3 0;stall 1 4 0;buyer 3 1");
        Due.is("praise 0, too", none.minute(), 3);
    }

    private static void alone() {
        NextStall x = Due.of("fair 2 3;stall 3 7 5;buyer 30 0");
        stalls(x, 5, 0);
        stalls(x, 6, 5);
        Due.is("MINUTE 0", x.minute(), 7);
        stalls(x, 2, 7);
        Due.is("MINUTE 1", x.minute(), 7);
        stalls(x, 3, 14);
        stalls(x, 2, 0);
    }

    private static void nobody() {
        NextStall x = Due.of("fair 1 0");
        Due.is("no STALLS", x.minute(), 0);
        Due.is("MINUTE", x.count(6), 1);
        Due.is("stall", x.stall(0, 0), -1);
        NextStall y = Due.of("fair 1 0;stall 1 1 1");
        Due.is("no BUYERS", y.minute(), 0);
        Due.is("had", y.had(0, 0), -1);
    }

    private static void handedOnAllAtOnce() {
        // Of two each sells the other's: 10 and 9 are taken in one MINUTE, 3 tenths stay with who sold.
        NextStall x = Due.of("fair 1 3;stall 5 10 0;stall 5 9 0;buyer 99 0;buyer 99 1");
        Due.is("MINUTE 0", x.minute(), 19);
        // TILL of 1: 10, it keeps 3, 7 go to 0. TILL of 0: 9, it keeps 2, 7 go to 1.
        stalls(x, 3, 9, 10);
    }

    private static void halfDownwards() {
        NextStall x = Due.of("fair 1 0;stall 1 1 7;stall 1 1 1;grudge 0 1;grudge 1 0");
        stalls(x, 6, 0, 3);
    }

    private static void threeMoreForWhatTheyCameFor() {
        int[] due = {9, 9, 4, 4};
        for (int more = 1; more <= 4; more++) {
            // Goods of 0 are praised 5 and so many more, those of 1, for which they came, 5.
            NextStall x = Due.of("fair 1 0;stall 1 4 5;stall 1 9 " + (5 + more) + ";buyer 20 1");
            Due.is("praised " + more + " more", x.minute(), due[more - 1]);
        }
    }

    /** Beyond 512 calls nothing is promised; the limit stands all the same. */
    private static void theLastMinute() {
        NextStall x = Due.of("fair 7 0;stall 1 1 0");
        for (int i = 0; i < 999; i++) {
            x.minute();
        }
        Due.is("MINUTE", x.count(6), 999);
        Due.is("999 at most", x.minute(), -1);
        Due.is("MINUTE", x.count(6), 999);
        Due.is("MINUTES that are asked go on", x.out(0), -2);
    }
}
