/** Promise 11, move: where the first one stands then; NONE, and nothing happens, without these (unlike). */
public final class Promise11MoveTest {
    public static void main(String[] args) {
        stallsThatThereAre();
        unlike();
        theFirstAndTheLastOfSix();
        placesNotNumbers();
        ofTwo();
        ofOneOrNone();
        theTillStaysWithItsStall();
        anAct();
        Due.end();
    }

    private static void stallsThatThereAre() {
        Edge.refusedBeyond("one", 0, 2, -1, (x, one) -> x.move(one, 0));
        Edge.refusedBeyond("other", 0, 2, -1, (x, other) -> x.move(0, other));
    }

    private static void unlike() {
        for (int stall = 0; stall < 3; stall++) {
            int same = stall;
            Edge.refused("move(" + stall + ", " + stall + ")", -1, x -> x.move(same, same));
        }
        Edge.refused("both beyond", -1, x -> x.move(3, 3));
    }

    private static void theFirstAndTheLastOfSix() {
        NextStall x = Due.of(Edge.SIX_STALLS);
        Due.is("where 0 stands then", x.move(0, 5), 5);
        int[] places = {5, 1, 2, 3, 4, 0};
        int[] sellers = {4, 5, 1, 2, 3, 0};
        for (int stall = 0; stall < 6; stall++) {
            Due.is("where " + stall + " stands", x.stall(stall, 4), places[stall]);
            Due.is("who sells " + stall + "'s", x.stall(stall, 5), sellers[stall]);
        }
        Due.is("a seventh", x.move(6, 0), -1);
        Due.is("back again", x.move(0, 5), 0);
        for (int stall = 0; stall < 6; stall++) {
            Due.is("where " + stall + " stands", x.stall(stall, 4), stall);
        }
    }

    private static void placesNotNumbers() {
        NextStall x = Due.of(Edge.SIX_STALLS);
        Due.is("0 where 1 was", x.move(0, 1), 1);
        Due.is("0 where 2 was", x.move(0, 2), 2);
        Due.is("1 where 2 is now", x.move(1, 2), 1);
        int[] places = {2, 1, 0, 3, 4, 5};
        for (int stall = 0; stall < 6; stall++) {
            Due.is("where " + stall + " stands", x.stall(stall, 4), places[stall]);
        }
    }

    private static void ofTwo() {
        NextStall x = Due.of("fair 1 0;stall 1 1 1;stall 1 1 2");
        Due.is("move(1, 0)", x.move(1, 0), 0);
        Due.is("where 0", x.stall(0, 4), 1);
        Due.is("move(0, 2)", x.move(0, 2), -1);
    }

    private static void ofOneOrNone() {
        NextStall one = Due.of("fair 1 0;stall 1 1 1");
        Due.is("alone", one.move(0, 0), -1);
        Due.is("alone", one.move(0, 1), -1);
        Due.is("ACTS", one.count(11), 0);
        Due.is("no STALLS", Due.of("fair 1 0").move(0, 1), -1);
    }

    private static void theTillStaysWithItsStall() {
        NextStall x = Due.of("fair 2 0;stall 1 7 0;stall 1 1 0;stall 1 1 0;buyer 7 0");
        x.minute();
        Due.is("TILL of who sold", x.stall(2, 2), 7);
        x.move(2, 0);
        Due.is("TILL of who sold", x.stall(2, 2), 7);
        x.minute();
        Due.is("it stands first, and 1 behind it, at DUSK", x.stall(1, 3), 7);
        Due.is("nothing goes to whose they were", x.stall(0, 3), 0);
    }

    private static void anAct() {
        NextStall x = Due.of(Edge.SIX_STALLS);
        x.move(0, 5);
        Due.is("ACTS", x.count(11), 1);
        Due.is("undone", x.undo(), 0);
        Due.is("where 0 stands", x.stall(0, 4), 0);
        Due.is("who sells 0's", x.stall(0, 5), 5);
    }
}
