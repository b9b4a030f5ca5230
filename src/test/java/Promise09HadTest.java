/** Promise 9, had: how many of a STALL's goods a BUYER has bought; NONE without these. */
public final class Promise09HadTest {
    public static void main(String[] args) {
        buyersThatThereAre();
        stallsThatThereAre();
        theLastOfBoth();
        fromNoneToAll();
        undone();
        nothingChanges();
        Due.end();
    }

    private static void buyersThatThereAre() {
        Edge.refusedBeyond("buyer", 0, 1, -1, (x, buyer) -> x.had(buyer, 0));
        Due.is("no BUYERS", Due.of(Edge.SIX_STALLS).had(0, 0), -1);
        Due.is("no STALLS", Due.of("fair 1 0").had(0, 0), -1);
    }

    private static void stallsThatThereAre() {
        Edge.refusedBeyond("stall", 0, 2, -1, (x, stall) -> x.had(0, stall));
        Due.is("the last of both", Edge.rich().had(1, 2), 1);
    }

    private static void theLastOfBoth() {
        NextStall x = Edge.ruledBy(Edge.SIX_STALLS + ";buyer 9 0".repeat(6), "buy 1 if stall = 5 and buyer = 5");
        x.minute();
        for (int buyer = 0; buyer < 6; buyer++) {
            for (int stall = 0; stall < 6; stall++) {
                Due.is("had(" + buyer + ", " + stall + ")", x.had(buyer, stall), buyer == 5 && stall == 5 ? 1 : 0);
            }
        }
        Due.is("a seventh BUYER", x.had(6, 0), -1);
        Due.is("a seventh STALL", x.had(0, 6), -1);
    }

    private static void fromNoneToAll() {
        NextStall x = Due.of(Edge.ONE_A_DAY);
        for (int i = 0; i <= 20; i++) {
            Due.is("had", x.had(0, 0), i);
            x.minute();
        }
        Due.is("all there were", x.had(0, 0), 20);
    }

    private static void undone() {
        NextStall x = Due.of(Edge.ONE_A_DAY);
        x.minute();
        x.undo();
        Due.is("had", x.had(0, 0), 0);
    }

    private static void nothingChanges() {
        Edge.unchanged("had(1, 2)", 1, Edge::rich, x -> x.had(1, 2));
    }
}
