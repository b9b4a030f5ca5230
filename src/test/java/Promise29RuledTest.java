/** Promise 29, ruled: how many RULES, and none, are as the NOTES say; the first; -2: none such; -3 for others. */
public final class Promise29RuledTest {
    /** Without a rule one piece for 1 is bought in each minute; the days are long. */
    private static final String FAIR = "fair 20 0;stall 20 1 0;buyer 99 0";

    public static void main(String[] args) {
        withoutAFair();
        whats0To1();
        withoutRules();
        withoutNotes();
        allSixAndNone();
        noneAheadOf0();
        theLastRuleAlone();
        noneSuch();
        behindMinute0AndMinute60();
        fromTheBeginOn();
        noStalls();
        nothingChanges();
        Due.end();
    }

    private static void ruled(String name, NextStall x, int many, int first) {
        Due.is(name + ": how many", x.ruled(0), many);
        Due.is(name + ": the first", x.ruled(1), first);
    }

    private static void withoutAFair() {
        NextStall x = new NextStall();
        Due.rule(x, "buy 1");
        ruled("without a FAIR", x, -3, -3);
    }

    private static void whats0To1() {
        Edge.refusedBeyond("what", 0, 1, -3, (x, what) -> x.ruled(what));
    }

    private static void withoutRules() {
        NextStall x = Due.of(FAIR);
        ruled("none alone", x, 1, -1);
        x.note(0, 0, 1);
        ruled("none alone", x, 1, -1);
        x.note(0, 0, 0);
        ruled("not so", x, 0, -2);
    }

    private static void withoutNotes() {
        ruled("one RULE and none", Due.of(FAIR, "buy 0"), 2, -1);
    }

    private static NextStall sixRules() {
        return Due.of(FAIR, "buy 1 if had < 1", "buy 1 if had < 2", "buy 1 if had < 3", "buy 1 if had < 4",
                "buy 1 if had < 5", "buy 1 if had < 6");
    }

    private static void allSixAndNone() {
        NextStall x = sixRules();
        ruled("without NOTES", x, 7, -1);
        x.note(0, 0, 1);
        ruled("the first piece", x, 7, -1);
        x.note(1, 0, 2);
        ruled("the second piece", x, 6, -1);
    }

    private static void noneAheadOf0() {
        NextStall x = sixRules();
        x.note(9, 0, 10);
        ruled("none", x, 1, -1);
        x.note(-1, 0, 0);
        x.note(9, 0, 1);
        ruled("RULE 0", x, 1, 0);
    }

    private static void theLastRuleAlone() {
        NextStall x = sixRules();
        x.note(9, 0, 6);
        ruled("RULE 5", x, 1, 5);
    }

    private static void noneSuch() {
        NextStall x = sixRules();
        x.note(9, 0, 7);
        ruled("none such", x, 0, -2);
    }

    private static void behindMinute0AndMinute60() {
        NextStall x = Due.of(FAIR, "buy 1 if day = 3");
        x.note(0, 0, 1);
        ruled("without a RULE in MINUTE 0", x, 1, -1);
        x.note(-1, 0, 0);
        x.note(0, 0, 0);
        ruled("by the RULE not", x, 1, 0);
        x.note(59, 0, 0);
        x.note(60, 0, 1);
        ruled("but in MINUTE 60", x, 1, 0);
    }

    private static void fromTheBeginOn() {
        NextStall x = Due.of(FAIR, "buy 1 if goods = 20");
        x.note(3, 0, 1);
        x.minute();
        x.minute();
        x.price(0, 9);
        x.earn(0, 99);
        ruled("as the text told it", x, 1, 0);
        x.force(0);
        ruled("whatever is IN FORCE", x, 1, 0);
        x.force(-1);
        ruled("whatever is IN FORCE", x, 1, 0);
    }

    private static void noStalls() {
        ruled("no STALLS", Due.of("fair 1 0", "buy 1"), 2, -1);
    }

    private static void nothingChanges() {
        Edge.unchanged("ruled(0)", Edge.rich().ruled(0), Edge::rich, x -> x.ruled(0));
        Edge.unchanged("ruled(1)", Edge.rich().ruled(1), Edge::rich, x -> x.ruled(1));
    }
}
