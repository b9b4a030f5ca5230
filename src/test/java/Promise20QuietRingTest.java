/** Promise 20, quietRing: NONE how many, 0 to 5 who stands there, -2 nobody; -3 for others, or without a FAIR. */
public final class Promise20QuietRingTest {
    public static void main(String[] args) {
        withoutAFair();
        whatsNoneTo5();
        nobodyStandsThere();
        aloneNone();
        theLastOrder();
        fewestAndMost();
        theRingGoesRound();
        ofSeveralTheFirst();
        nothingChanges();
        Due.end();
    }

    private static void withoutAFair() {
        for (int what = -1; what < 6; what++) {
            Due.is("what " + what, new NextStall().quietRing(what), -3);
        }
    }

    private static void whatsNoneTo5() {
        Edge.refusedBeyond("what", -1, 5, -3, (x, what) -> x.quietRing(what));
        NextStall six = Due.of(Edge.SIX_STALLS);
        Due.is("the first what", six.quietRing(-1), 0);
        Due.is("the last what", six.quietRing(5), 5);
    }

    private static void nobodyStandsThere() {
        Edge.order("no STALLS", Due.of("fair 1 0"), (x, place) -> x.quietRing(place));
        Due.is("no STALLS", Due.of("fair 1 0").quietRing(-1), 0);
        Edge.order("one", Due.of("fair 1 0;stall 1 1 1"), (x, place) -> x.quietRing(place), 0);
        Edge.order("two", Due.of("fair 1 0;stall 1 1 1;stall 1 1 1"), (x, place) -> x.quietRing(place), 0, 1);
    }

    private static void aloneNone() {
        Due.is("alone", Due.of("fair 1 0;stall 1 1 1").quietRing(-1), 0);
    }

    /** So told, that each bears one against all but the one in front of it by number (of 0: but 5). */
    private static String againstAllButOne() {
        StringBuilder text = new StringBuilder("fair1 0" + ";stall0 1 0".repeat(6));
        for (int one = 0; one < 6; one++) {
            for (int other = 0; other < 6; other++) {
                if (other != one && other != (one + 5) % 6) {
                    text.append(";grudge").append(one).append(' ').append(other);
                }
            }
        }
        return text.toString();
    }

    private static void theLastOrder() {
        NextStall x = Due.of(againstAllButOne());
        Due.is("none", x.quietRing(-1), 0);
        Edge.order("the last of 120", x, (y, place) -> y.quietRing(place), 0, 5, 4, 3, 2, 1);
    }

    private static void fewestAndMost() {
        NextStall x = Due.of(againstAllButOne());
        for (int one = 0; one < 6; one++) {
            x.grudge(one, (one + 5) % 6);
        }
        Due.is("all bear one against all", x.quietRing(-1), 6);
        Edge.order("of all alike the first", x, (y, place) -> y.quietRing(place), 0, 1, 2, 3, 4, 5);
        x.grudge(3, 4);
        Due.is("one less", x.quietRing(-1), 5);
        Edge.order("the first with 4 behind 3", x, (y, place) -> y.quietRing(place), 0, 1, 2, 3, 4, 5);
        NextStall two = Due.of("fair 1 0;stall 1 1 1;stall 1 1 1;grudge 0 1;grudge 1 0");
        Due.is("two against each other", two.quietRing(-1), 2);
    }

    private static void theRingGoesRound() {
        // The last one sells the first one's goods: 2 must not stand last.
        NextStall x = Due.of("fair 1 0;stall 1 1 1;stall 1 1 1;stall 1 1 1;grudge 2 0");
        Due.is("none", x.quietRing(-1), 0);
        Edge.order("2 ahead of 1", x, (y, place) -> y.quietRing(place), 0, 2, 1);
    }

    private static void ofSeveralTheFirst() {
        NextStall x = Due.of("fair 1 0;stall 1 1 1;stall 1 1 1;stall 1 1 1;stall 1 1 1;grudge 0 1;grudge 2 3");
        Due.is("none", x.quietRing(-1), 0);
        Edge.order("the first without one", x, (y, place) -> y.quietRing(place), 0, 2, 1, 3);
        x.move(0, 3);
        Edge.order("not as they stand", x, (y, place) -> y.quietRing(place), 0, 2, 1, 3);
    }

    private static void nothingChanges() {
        // 0 bears one against 1, 2 one against 0: 0 2 1 and then 1's goods are sold by 2, 0's by 1.
        Edge.unchanged("quietRing(NONE)", 0, Edge::rich, x -> x.quietRing(-1));
        Edge.unchanged("quietRing(1)", 2, Edge::rich, x -> x.quietRing(1));
    }
}
