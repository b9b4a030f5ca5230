/** Promise 13, grudge: 1 if there is one then, else 0; NONE, and nothing happens, without these (unlike). */
public final class Promise13GrudgeTest {
    public static void main(String[] args) {
        stallsThatThereAre();
        unlike();
        thereIsOneThenNone();
        ofAllSixAgainstAll();
        ofOneOrNone();
        anAct();
        Due.end();
    }

    private static void stallsThatThereAre() {
        Edge.refusedBeyond("one", 0, 2, -1, (x, one) -> x.grudge(one, 0));
        Edge.refusedBeyond("other", 0, 2, -1, (x, other) -> x.grudge(0, other));
    }

    private static void unlike() {
        for (int stall = 0; stall < 3; stall++) {
            int same = stall;
            Edge.refused("grudge(" + stall + ", " + stall + ")", -1, x -> x.grudge(same, same));
        }
    }

    private static void thereIsOneThenNone() {
        NextStall x = Due.of("fair 1 0;stall 1 1 9;stall 1 1 5");
        Due.is("there is one", x.grudge(0, 1), 1);
        Due.is("whom", x.stall(0, 7), 2);
        Due.is("not the other way round", x.stall(1, 7), 0);
        Due.is("PRAISE", x.stall(1, 6), 4);
        Due.is("there is none", x.grudge(0, 1), 0);
        Due.is("whom", x.stall(0, 7), 0);
        Due.is("PRAISE", x.stall(1, 6), 9);
        Due.is("there is one again", x.grudge(0, 1), 1);
        Due.is("ACTS", x.count(11), 3);
    }

    private static void ofAllSixAgainstAll() {
        NextStall x = Due.of(Edge.SIX_STALLS);
        for (int one = 0; one < 6; one++) {
            for (int other = 0; other < 6; other++) {
                Due.is("grudge(" + one + ", " + other + ")", x.grudge(one, other), one == other ? -1 : 1);
            }
            Due.is("against all others", x.stall(one, 7), 63 - (1 << one));
        }
        Due.is("a seventh", x.grudge(6, 0), -1);
        Due.is("against a seventh", x.grudge(0, 6), -1);
        Due.is("none any more", x.grudge(5, 0), 0);
        Due.is("against the others", x.stall(5, 7), 30);
    }

    private static void ofOneOrNone() {
        NextStall one = Due.of("fair 1 0;stall 1 1 1");
        Due.is("alone", one.grudge(0, 0), -1);
        Due.is("alone", one.grudge(0, 1), -1);
        Due.is("ACTS", one.count(11), 0);
        Due.is("no STALLS", Due.of("fair 1 0").grudge(0, 1), -1);
    }

    private static void anAct() {
        NextStall x = Due.of("fair 1 0;stall 1 1 9;stall 1 1 5;grudge 0 1");
        x.grudge(0, 1);
        Due.is("ACTS", x.count(11), 1);
        Due.is("undone", x.undo(), 0);
        Due.is("whom", x.stall(0, 7), 2);
        Due.is("PRAISE", x.stall(1, 6), 4);
    }
}
