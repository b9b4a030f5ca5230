/** Promise 6, force: a RULE is IN FORCE (NONE: none), which was; -2, and nothing happens, if there is none such. */
public final class Promise06ForceTest {
    public static void main(String[] args) {
        withoutRules();
        theLastRuleAndTheNextOne();
        allSix();
        none();
        refused();
        noAct();
        withoutAFair();
        Due.end();
    }

    private static void withoutRules() {
        NextStall x = Due.of(Edge.ONE_A_DAY);
        Due.is("force(0)", x.force(0), -2);
        Due.is("force(NONE)", x.force(-1), -1);
        Due.is("none IN FORCE", x.count(5), -1);
    }

    private static void theLastRuleAndTheNextOne() {
        NextStall x = Due.of(Edge.ONE_A_DAY, "buy 0", "buy 1");
        Due.is("the last one", x.force(1), -1);
        Due.is("the next one", x.force(2), -2);
        Due.is("the RULE IN FORCE", x.count(5), 1);
        Due.is("the first one", x.force(0), 1);
        Due.is("nothing is bought by it", x.taken(5), 0);
        Due.rule(x, "buy 1 if had < 3");
        Due.is("the next one, told", x.force(2), 0);
        Due.is("three are bought by it", x.taken(5), 3);
    }

    private static void allSix() {
        NextStall x = Due.of(Edge.ONE_A_DAY, "buy 1", "buy 1", "buy 1", "buy 1", "buy 1", "buy 1");
        for (int rule = 0; rule < 6; rule++) {
            Due.is("which was", x.force(rule), rule - 1);
            Due.is("which is", x.count(5), rule);
        }
        Due.is("a seventh", x.force(6), -2);
        Due.is("the RULE IN FORCE", x.count(5), 5);
    }

    private static void none() {
        NextStall x = Edge.ruledBy(Edge.ONE_A_DAY, "buy 0");
        Due.is("by the RULE", x.taken(1), 0);
        Due.is("which was", x.force(-1), 0);
        Due.is("none was", x.force(-1), -1);
        Due.is("without one", x.taken(1), 1);
    }

    private static void refused() {
        Edge.refusedBeyond("force", -1, 1, -2, (x, rule) -> x.force(rule));
        Edge.unchanged("the same again", 0, Edge::rich, x -> x.force(0));
    }

    private static void noAct() {
        NextStall x = Due.of(Edge.ONE_A_DAY, "buy 1");
        x.minute();
        x.force(0);
        Due.is("ACTS", x.count(11), 1);
        x.undo();
        Due.is("the RULE IN FORCE", x.count(5), 0);
    }

    private static void withoutAFair() {
        NextStall x = new NextStall();
        Due.rule(x, "buy 1");
        Due.is("which was", x.force(0), -1);
        Due.is("none such", x.force(1), -2);
        Due.is("which is", x.count(5), 0);
    }
}
