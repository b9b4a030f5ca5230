/** Promise 5, rule: the TAPE is a RULE, its number; -2 - its FAULT; NONE, and nothing happens: there are 6. */
public final class Promise05RuleTest {
    public static void main(String[] args) {
        numbers0To5();
        theTapeIsEmptyThen();
        theTapeIsEmptyBehindAFault();
        aFaultIsNoRule();
        aFaultLeavesNothing();
        aSeventhIsRefused();
        aSeventhLeavesTheTape();
        rulesStayAsTheyWereTold();
        withoutAFair();
        noAct();
        Due.end();
    }

    private static void numbers0To5() {
        NextStall x = new NextStall();
        for (int i = 0; i < 6; i++) {
            Due.is("its number", Due.rule(x, "buy " + i), i);
            Due.is("RULES", x.count(4), i + 1);
        }
    }

    private static void theTapeIsEmptyThen() {
        NextStall x = new NextStall();
        Due.rule(x, "buy 1");
        Due.is("bytes", x.count(13), 0);
        Due.is("an empty text has a FAULT", x.rule(), Due.fault(0, 0));
    }

    private static void theTapeIsEmptyBehindAFault() {
        NextStall x = new NextStall();
        Due.is("a FAULT", Due.rule(x, "buy x"), Due.fault(4, 0));
        Due.is("bytes", x.count(13), 0);
    }

    private static void aFaultIsNoRule() {
        NextStall x = Edge.ruledBy(Edge.ONE_A_DAY, "buy 1 if had = 0");
        Due.is("a FAULT", Due.rule(x, "buy 0;buy 1 if had = 5;buy"), Due.fault(26, 0));
        Due.is("RULES", x.count(4), 1);
        Due.is("no RULE 1", x.force(1), -2);
        Due.is("the RULE IN FORCE", x.count(5), 0);
        Due.is("RULE 0 is as it was", x.taken(9), 1);
        Due.is("the number is not used up", Due.rule(x, "buy 1 if had < 2"), 1);
        x.force(1);
        Due.is("nothing of the one with the FAULT is left", x.taken(9), 2);
    }

    /** However often a full text had a FAULT, a full one without is taken, and says what it says. */
    private static void aFaultLeavesNothing() {
        NextStall x = Due.of(Edge.ONE_A_DAY);
        String full = "buy " + "1+".repeat(59) + "1";
        for (int i = 0; i < 5; i++) {
            Due.is("a FAULT", Due.rule(x, full + ";"), Due.fault(full.length() + 1, 0));
            Due.is("a FAULT", Due.rule(x, "buy 1;".repeat(12)), Due.fault(72, 0));
        }
        Due.is("a full one", Due.rule(x, full + " - 60"), Due.fault(full.length() + 3, 3));
        Due.is("a full one", Due.rule(x, full), 0);
        Due.is("a short one", Due.rule(x, "buy 1 if had < 2"), 1);
        x.force(1);
        Due.is("two", x.taken(9), 2);
        NextStall y = Due.of(Edge.ONE_A_DAY);
        for (int i = 0; i < 5; i++) {
            Due.rule(y, full + ";");
        }
        Due.is("in its place", Due.rule(y, "buy 1 if not had >= 3 and had + 1 < 9"), 0);
        y.force(0);
        Due.is("three", y.taken(9), 3);
    }

    private static NextStall sixRules(String text) {
        NextStall x = Edge.rich();
        for (int i = 2; i < 6; i++) {
            Due.rule(x, "buy 1 if stall = 2");
        }
        Due.tell(x, text);
        return x;
    }

    private static void aSeventhIsRefused() {
        for (String text : new String[] {"buy 1", "buy x", "", "fair 3 1;stall 1 2 3;buyer 9 0"}) {
            Edge.unchanged("a seventh \"" + text + "\"", -1, () -> sixRules(text), NextStall::rule);
        }
        Due.is("RULES", sixRules("buy 1").count(4), 6);
    }

    private static void aSeventhLeavesTheTape() {
        NextStall x = sixRules("fair 3 1;stall 1 2 3");
        Due.is("a seventh", x.rule(), -1);
        Due.is("bytes", x.count(13), 20);
        Due.is("its text can be a FAIR", x.fair(), 1);
    }

    private static void rulesStayAsTheyWereTold() {
        NextStall x = Due.of(Edge.ONE_A_DAY);
        for (int i = 0; i < 6; i++) {
            Due.rule(x, "buy 1 if had < " + (i + 1));
        }
        Due.rule(x, "buy 0");
        for (int i = 0; i < 6; i++) {
            x.force(i);
            Due.is("RULE " + i, x.taken(9), i + 1);
        }
    }

    private static void withoutAFair() {
        NextStall x = new NextStall();
        Due.is("its number", Due.rule(x, "buy 1"), 0);
        Due.is("IN FORCE", x.force(0), -1);
    }

    private static void noAct() {
        NextStall x = Due.of(Edge.ONE_A_DAY);
        x.minute();
        Due.rule(x, "buy 1");
        Due.is("ACTS", x.count(11), 1);
        Due.is("undo", x.undo(), 0);
        Due.is("RULES", x.count(4), 1);
    }
}
