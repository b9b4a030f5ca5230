/** Promise 27, pence: 0 to 9999 among STALLS by WEALTH, what is left to those who lost most; NONE without these. */
public final class Promise27PenceTest {
    public static void main(String[] args) {
        stallsThatThereAre();
        pence0To9999();
        nobodyHasAny();
        oneHasAll();
        ofSeveralTheLeastFirst();
        thoseWhoLostMost();
        noPennyIsLost();
        tillsDoNotCount();
        nothingChanges();
        Due.end();
    }

    private static void pence(NextStall x, int much, int... due) {
        for (int stall = 0; stall < due.length; stall++) {
            Due.is("pence(" + much + ", " + stall + ")", x.pence(much, stall), due[stall]);
        }
    }

    private static void stallsThatThereAre() {
        Edge.refusedBeyond("stall", 0, 2, -1, (x, stall) -> x.pence(9, stall));
        Due.is("no STALLS", Due.of("fair 1 0").pence(0, 0), -1);
        NextStall six = Due.of(Edge.SIX_STALLS);
        Due.is("of six the last one", six.pence(9, 5), 0);
        Due.is("a seventh", six.pence(9, 6), -1);
    }

    private static void pence0To9999() {
        Edge.refusedBeyond("much", 0, 9999, -1, (x, much) -> x.pence(much, 0));
        NextStall x = Due.of(Edge.ONE_A_DAY);
        x.minute();
        pence(x, 0, 0);
        pence(x, 1, 1);
        pence(x, 9999, 9999);
    }

    private static void nobodyHasAny() {
        NextStall x = Due.of(MinuteTest.FAIR);
        pence(x, 9999, 0, 0, 0);
        pence(x, 1, 0, 0, 0);
        pence(x, 0, 0, 0, 0);
    }

    private static void oneHasAll() {
        NextStall x = Edge.ruledBy("fair 1 0" + ";stall 9 1 0".repeat(6) + ";buyer 9 0", "buy 1 if stall = 5");
        x.minute();
        pence(x, 9999, 0, 0, 0, 0, 0, 9999);
        pence(x, 1, 0, 0, 0, 0, 0, 1);
    }

    private static NextStall sixAlike() {
        NextStall x = Edge.ruledBy("fair 1 0" + ";stall 9 1 0".repeat(6) + ";buyer 9 0".repeat(6), "buy 1 if buyer = stall");
        x.minute();
        return x;
    }

    private static void ofSeveralTheLeastFirst() {
        NextStall x = sixAlike();
        pence(x, 0, 0, 0, 0, 0, 0, 0);
        pence(x, 1, 1, 0, 0, 0, 0, 0);
        pence(x, 5, 1, 1, 1, 1, 1, 0);
        pence(x, 6, 1, 1, 1, 1, 1, 1);
        pence(x, 7, 2, 1, 1, 1, 1, 1);
        pence(x, 9999, 1667, 1667, 1667, 1666, 1666, 1666);
    }

    private static void thoseWhoLostMost() {
        NextStall x = Due.of(MinuteTest.FAIR);
        x.minute();
        x.minute();
        x.minute();
        // WEALTH is 0, 6 and 20: of 10 the parts are 0, 60 / 26 and 200 / 26, with 8 and 18 lost.
        pence(x, 10, 0, 2, 8);
        pence(x, 1, 0, 0, 1);
        // Of 3: 18 / 26 and 60 / 26, with 18 and 8 lost.
        pence(x, 3, 0, 1, 2);
        pence(x, 26, 0, 6, 20);
        pence(x, 13, 0, 3, 10);
        pence(x, 9999, 0, 2307, 7692);
    }

    private static void noPennyIsLost() {
        NextStall x = Edge.ruledBy("fair 1 3;stall 9 7 0;stall 9 11 0;stall 9 13 0;stall 9 17 0;buyer 99 0;buyer 99 0;buyer 99 0",
                "buy 1 if buyer = stall;buy 1 if had < 2");
        x.minute();
        x.minute();
        for (int much : new int[] {0, 1, 2, 3, 7, 11, 99, 1000, 9998, 9999}) {
            Due.is("all together", x.pence(much, 0) + x.pence(much, 1) + x.pence(much, 2) + x.pence(much, 3), much);
        }
    }

    private static void tillsDoNotCount() {
        NextStall x = Due.of("fair 2 0;stall 9 5 0;buyer 99 0");
        x.minute();
        Due.is("TILL", x.stall(0, 2), 5);
        pence(x, 9, 0);
        x.minute();
        pence(x, 9, 9);
    }

    private static void nothingChanges() {
        // WEALTH of rich is 29, 7 and 0.
        Edge.unchanged("pence(36, 0)", 29, Edge::rich, x -> x.pence(36, 0));
        Edge.unchanged("pence(36, 1)", 7, Edge::rich, x -> x.pence(36, 1));
    }
}
