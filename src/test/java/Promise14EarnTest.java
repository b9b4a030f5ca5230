/** Promise 14, earn: PURSE then, 999 at most; NONE, and nothing happens, without these. */
public final class Promise14EarnTest {
    public static void main(String[] args) {
        buyersThatThereAre();
        oneTo99();
        ofSixTheLast();
        to999();
        beyond999();
        at999();
        anAct();
        Due.end();
    }

    private static void buyersThatThereAre() {
        Edge.refusedBeyond("buyer", 0, 1, -1, (x, buyer) -> x.earn(buyer, 5));
        Due.is("no BUYERS", Due.of(Edge.SIX_STALLS).earn(0, 5), -1);
    }

    private static void oneTo99() {
        Edge.refusedBeyond("much", 1, 99, -1, (x, much) -> x.earn(0, much));
        NextStall x = Due.of("fair 1 0;stall 1 1 1;buyer 0 0;buyer 5 0");
        Due.is("the least", x.earn(0, 1), 1);
        Due.is("the most", x.earn(0, 99), 100);
        Due.is("PURSE", x.buyer(0, 0), 100);
        Due.is("another one's PURSE", x.buyer(1, 0), 5);
    }

    private static void ofSixTheLast() {
        NextStall x = Due.of("fair 1 0;stall 1 1 1" + ";buyer 3 0".repeat(6));
        Due.is("the last one", x.earn(5, 4), 7);
        Due.is("a seventh", x.earn(6, 4), -1);
        Due.is("the one ahead of it", x.buyer(4, 0), 3);
    }

    /** So much is in the only purse. */
    private static NextStall purseOf(int much) {
        NextStall x = Due.of("fair 1 0;stall 1 1 1;buyer 99 0");
        for (int has = 99; has < much; has += Math.min(99, much - has)) {
            x.earn(0, Math.min(99, much - has));
        }
        Due.is("PURSE", x.buyer(0, 0), much);
        return x;
    }

    private static void to999() {
        Due.is("998 and 1", purseOf(998).earn(0, 1), 999);
        Due.is("900 and 99", purseOf(900).earn(0, 99), 999);
        Due.is("900 and 98", purseOf(900).earn(0, 98), 998);
    }

    private static void beyond999() {
        Due.is("998 and 2", purseOf(998).earn(0, 2), 999);
        NextStall x = purseOf(901);
        Due.is("901 and 99", x.earn(0, 99), 999);
        Due.is("PURSE", x.buyer(0, 0), 999);
        Due.is("undone", x.undo(), 9);
        Due.is("PURSE", x.buyer(0, 0), 901);
    }

    private static void at999() {
        NextStall x = purseOf(999);
        int acts = x.count(11);
        Due.is("1 more", x.earn(0, 1), 999);
        Due.is("99 more", x.earn(0, 99), 999);
        Due.is("ACTS", x.count(11), acts + 2);
        Due.is("0 more", x.earn(0, 0), -1);
        Due.is("ACTS", x.count(11), acts + 2);
    }

    private static void anAct() {
        NextStall x = Due.of(Edge.ONE_A_DAY);
        x.earn(0, 99);
        Due.is("ACTS", x.count(11), 1);
        Due.is("undone", x.undo(), 0);
        Due.is("PURSE", x.buyer(0, 0), 99);
    }
}
