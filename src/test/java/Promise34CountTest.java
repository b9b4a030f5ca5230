/** Promise 34, count: what 0 to 13; NONE for others. */
public final class Promise34CountTest {
    public static void main(String[] args) {
        whats0To13();
        ofANewOne();
        ofARichOne();
        ofAFullOne();
        ofAFairOfNobody();
        nothingChanges();
        Due.end();
    }

    private static void counts(String name, NextStall x, int... due) {
        for (int what = 0; what < due.length; what++) {
            Due.is(name + ", what " + what, x.count(what), due[what]);
        }
    }

    private static void whats0To13() {
        Edge.refusedBeyond("what", 0, 13, -1, (x, what) -> x.count(what));
        for (int what : Edge.beyond(0, 13)) {
            Due.is("of a new one, what " + what, new NextStall().count(what), -1);
        }
    }

    private static void ofANewOne() {
        counts("a new one", new NextStall(), 0, 0, 0, 0, 0, -1, 0, 0, 0, 0, 0, 0, 0, 0);
    }

    private static void ofARichOne() {
        // 12 pieces less 2 of 2's and 4 of 0's; 7 and 29 were handed on.
        counts("a rich one", Edge.rich(), 3, 2, 3, 2, 2, 0, 3, 6, 36, 0, 2, 7, 77, 20);
    }

    private static void ofAFullOne() {
        NextStall x = Due.of("fair 20 9" + ";stall 20 1 20".repeat(6) + ";buyer 99 0".repeat(6),
                "buy 1", "buy 1", "buy 1", "buy 1", "buy 1", "buy 1");
        x.force(5);
        x.seed(Integer.MAX_VALUE);
        for (int i = 0; i < 10; i++) {
            x.note(60, 5, 9999);
        }
        for (int i = 0; i < 21; i++) {
            x.earn(0, 1);
        }
        for (int i = 0; i < 20; i++) {
            x.feed(0, 0, 0, 0, 0);
        }
        counts("a full one", x, 20, 9, 6, 6, 6, 5, 0, 120, 0, 0, 10, 20, Integer.MAX_VALUE, 400);
        x.minute();
        counts("and one MINUTE", x, 20, 9, 6, 6, 6, 5, 1, 114, 0, 6, 10, 20, Integer.MAX_VALUE, 400);
        for (int i = 1; i < 20; i++) {
            x.minute();
        }
        counts("and one day", x, 20, 9, 6, 6, 6, 5, 20, 0, 120, 0, 10, 20, Integer.MAX_VALUE, 400);
    }

    private static void ofAFairOfNobody() {
        NextStall x = Due.of("fair 1 0");
        x.minute();
        counts("nobody", x, 1, 0, 0, 0, 0, -1, 1, 0, 0, 0, 0, 1, 0, 0);
    }

    private static void nothingChanges() {
        Edge.unchanged("count(7)", 6, Edge::rich, x -> x.count(7));
    }
}
