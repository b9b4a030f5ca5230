/** Promise 36, back: all is as in an IMAGE, MINUTE; NONE, and nothing happens, if it was never made, or without it. */
public final class Promise36BackTest {
    public static void main(String[] args) {
        images0To3();
        neverMade();
        nothingCanBeUndoneThen();
        tapeAndRulesStay();
        imagesStay();
        theRuleInForceAsItWas();
        notesAndXAsTheyWere();
        notesOfAllKinds();
        acrossFairs();
        goesOnAsItDid();
        Due.end();
    }

    private static void images0To3() {
        Edge.refusedBeyond("image", 0, 3, -1, (x, k) -> x.back(k));
    }

    private static void neverMade() {
        Edge.refused("never made", -1, x -> x.back(0));
        Edge.refused("never made", -1, x -> x.back(2));
        NextStall x = new NextStall();
        for (int k = 0; k < 4; k++) {
            Due.is("of a new one", x.back(k), -1);
        }
        Due.is("refused, it is not made", x.image(-1), -1);
        Due.is("never made", x.back(0), -1);
    }

    private static void nothingCanBeUndoneThen() {
        NextStall x = Edge.rich();
        Due.is("back", x.back(3), 2);
        Due.is("ACTS", x.count(11), 0);
        Due.is("undo", x.undo(), -1);
        Due.is("MINUTE", x.count(6), 2);
        x.minute();
        Due.is("one then", x.undo(), 0);
        Due.is("none", x.undo(), -1);
    }

    private static void tapeAndRulesStay() {
        NextStall x = Due.of(Edge.ONE_A_DAY);
        x.image(0);
        Due.rule(x, "buy 1");
        Due.tell(x, "fair 9 0;stall 1 1 1");
        x.back(0);
        Due.is("RULES", x.count(4), 1);
        Due.is("TAPE", x.count(13), 20);
        Due.is("its text", x.fair(), 1);
        Due.is("LONG", x.count(0), 9);
    }

    private static void imagesStay() {
        NextStall x = Edge.rich();
        for (int i = 0; i < 3; i++) {
            Due.is("back(3)", x.back(3), 2);
            x.minute();
            Due.is("back(1)", x.back(1), 1);
            x.minute();
        }
        Due.is("never made", x.back(0), -1);
    }

    private static void theRuleInForceAsItWas() {
        NextStall x = Due.of(Edge.ONE_A_DAY, "buy 0");
        x.image(0);
        Due.rule(x, "buy 1 if had < 1");
        x.force(1);
        x.image(1);
        x.back(0);
        Due.is("none", x.count(5), -1);
        Due.is("by none", x.taken(9), 9);
        x.back(1);
        Due.is("RULE 1", x.count(5), 1);
        Due.is("by RULE 1", x.taken(9), 1);
    }

    private static void notesAndXAsTheyWere() {
        NextStall x = Due.of("fair 20 0;stall 20 1 0;buyer 99 0");
        x.note(0, 0, 1);
        x.seed(5);
        x.image(0);
        x.note(0, 0, 0);
        x.seed(6);
        Due.is("not so", x.ruled(0), 0);
        x.back(0);
        Due.is("NOTES", x.count(10), 1);
        Due.is("so", x.ruled(0), 1);
        Due.is("x", x.count(12), 5);
        x.note(-1, 0, 0);
        x.back(0);
        Due.is("NOTES", x.count(10), 1);
        x.note(-1, 0, 0);
        x.note(5, 0, 9);
        x.back(0);
        Due.is("the NOTE that was told", x.ruled(0), 1);
    }

    private static void notesOfAllKinds() {
        // 1 sells 0's goods, which are bought without a RULE: TILLS behind MINUTE 0 are 0 and 1, then 0 and 2.
        NextStall x = Due.of("fair 20 0;stall 20 1 0;stall 20 2 0;buyer 99 0");
        int[][] told = {{0, 1, 1}, {1, 1, 2}, {0, 0, 0}, {1, 0, 0}};
        for (int k = 0; k < 4; k++) {
            x.note(-1, 0, 0);
            x.note(told[k][0], told[k][1], told[k][2]);
            x.image(k);
        }
        int[][] other = {{0, 0, 9}, {5, 1, 9}, {9, 0, 9}};
        for (int[] note : other) {
            for (int k = 0; k < 4; k++) {
                x.note(-1, 0, 0);
                x.note(note[0], note[1], note[2]);
                Due.is("not so", x.ruled(0), 0);
                x.back(k);
                Due.is("NOTES", x.count(10), 1);
                Due.is("so", x.ruled(0), 1);
            }
        }
    }

    private static void acrossFairs() {
        NextStall x = Due.of(MinuteTest.FAIR);
        x.note(0, 1, 16);
        x.minute();
        x.image(0);
        Due.fair(x, Edge.SIX_STALLS + ";buyer 9 0".repeat(6));
        x.image(1);
        Due.is("back", x.back(0), 1);
        Due.is("STALLS", x.count(2), 3);
        Due.is("BUYERS", x.count(3), 2);
        Due.is("no fourth STALL", x.stall(3, 0), -1);
        Due.is("LONG", x.count(0), 3);
        Due.is("from the begin of that one", x.ruled(0), 1);
        Due.is("its orders", x.rings(-1), 1);
        Due.is("back", x.back(1), 0);
        Due.is("STALLS", x.count(2), 6);
        Due.is("orders", x.rings(-1), 120);
        Due.is("the last one", x.stall(5, 5), 4);
    }

    private static void goesOnAsItDid() {
        NextStall x = Due.of(MinuteTest.FAIR);
        x.minute();
        x.image(2);
        int[] paid = {8, 2, 2, 0};
        for (int turn = 0; turn < 2; turn++) {
            for (int due : paid) {
                Due.is("paid", x.minute(), due);
            }
            Due.is("back", x.back(2), 1);
        }
    }
}
