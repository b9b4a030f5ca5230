/** Promise 31, rings: which orders are as the NOTES say; -2: nobody stands there, or there is none such; -3 for others. */
public final class Promise31RingsTest {
    /** In minutes 0 to 5 the goods of 0 to 5 are sold for 1 to 6. */
    private static final String SIX = "fair 20 0;stall 1 1 0;stall 1 2 0;stall 1 3 0;stall 1 4 0;stall 1 5 0;stall 1 6 0;buyer 99 0";

    public static void main(String[] args) {
        withoutAFair();
        whatsNoneTo5();
        nobodyStandsThere();
        allOrders();
        theLastOrderAlone();
        noneSuch();
        ofSeveralTheFirst();
        byTheRuleInForce();
        fromTheBeginOn();
        behindMinute0AndMinute60();
        nothingChanges();
        Due.end();
    }

    private static void rings(String name, NextStall x, int many, int... who) {
        Due.is(name, x.rings(-1), many);
        Edge.order(name, x, (y, place) -> y.rings(place), who);
    }

    private static void withoutAFair() {
        for (int what = -1; what < 6; what++) {
            Due.is("what " + what, new NextStall().rings(what), -3);
        }
    }

    private static void whatsNoneTo5() {
        Edge.refusedBeyond("what", -1, 5, -3, (x, what) -> x.rings(what));
    }

    private static void nobodyStandsThere() {
        rings("one", Due.of("fair 1 0;stall 1 1 1"), 1, 0);
        rings("two", Due.of("fair 1 0;stall 1 1 1;stall 1 1 1"), 1, 0, 1);
        rings("three", Due.of("fair 1 0;stall 1 1 1;stall 1 1 1;stall 1 1 1"), 2, 0, 1, 2);
        // There is one order of nobody, and it has no place.
        rings("no STALLS", Due.of("fair 1 0"), 1);
    }

    private static void allOrders() {
        rings("without NOTES", Due.of(SIX), 120, 0, 1, 2, 3, 4, 5);
        NextStall x = Due.of(SIX);
        x.note(60, 3, 0);
        rings("at a time without a TILL", x, 120, 0, 1, 2, 3, 4, 5);
    }

    private static void theLastOrderAlone() {
        NextStall x = Due.of(SIX);
        for (int stall = 0; stall < 6; stall++) {
            x.note(5, stall, stall == 0 ? 6 : stall);
        }
        rings("the last of 120", x, 1, 0, 5, 4, 3, 2, 1);
        NextStall y = Due.of(SIX);
        for (int stall = 0; stall < 6; stall++) {
            y.note(5, stall, stall == 5 ? 1 : stall + 2);
        }
        rings("the first of 120", y, 1, 0, 1, 2, 3, 4, 5);
    }

    private static void noneSuch() {
        NextStall x = Due.of(SIX);
        x.note(5, 0, 7);
        rings("none such", x, 0);
        NextStall one = Due.of("fair 20 0;stall 9 1 0;buyer 9 0");
        one.note(0, 0, 0);
        rings("none such", one, 0);
    }

    private static void ofSeveralTheFirst() {
        NextStall x = Due.of(SIX);
        // 5 sells 2's goods: so many orders of the other three and of these two as one.
        x.note(2, 5, 3);
        rings("5 ahead of 2", x, 24, 0, 1, 3, 4, 5, 2);
        x.note(0, 2, 1);
        rings("and 2 last", x, 6, 0, 1, 3, 4, 5, 2);
        x.note(1, 4, 2);
        rings("and 4 ahead of 1", x, 2, 0, 3, 4, 1, 5, 2);
    }

    private static void byTheRuleInForce() {
        NextStall x = Due.of(SIX, "buy 1 if stall = 5", "buy 0");
        x.note(0, 1, 6);
        rings("without a RULE", x, 0);
        x.force(0);
        rings("1 ahead of 5", x, 24, 0, 1, 5, 2, 3, 4);
        x.force(1);
        rings("nothing is sold", x, 0);
    }

    private static void fromTheBeginOn() {
        NextStall x = Due.of(SIX);
        x.note(0, 5, 1);
        rings("as the text told it", x, 24, 0, 1, 2, 3, 4, 5);
        x.minute();
        x.move(0, 3);
        x.price(0, 9);
        x.earn(0, 9);
        rings("as the text told it", x, 24, 0, 1, 2, 3, 4, 5);
    }

    private static void behindMinute0AndMinute60() {
        NextStall x = Edge.ruledBy("fair 20 0;stall 9 3 0;buyer 9 0", "buy 1 if minute = 0 and [day = 0 or day = 3]");
        x.note(0, 0, 3);
        rings("behind MINUTE 0", x, 1, 0);
        x.note(60, 0, 3);
        rings("behind MINUTE 60", x, 1, 0);
        x.note(59, 0, 3);
        rings("not ahead of it", x, 0);
    }

    private static void nothingChanges() {
        Edge.unchanged("rings(NONE)", Edge.rich().rings(-1), Edge::rich, x -> x.rings(-1));
        Edge.unchanged("rings(5)", -2, Edge::rich, x -> x.rings(5));
    }
}
