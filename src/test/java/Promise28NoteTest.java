/** Promise 28, note: how many; n NONE: there are none then, 0; -2, and nothing happens, without these, or if there are 10. */
public final class Promise28NoteTest {
    public static void main(String[] args) {
        minutes0To60();
        stallsThatThereAre();
        tills0To9999();
        tenAtMost();
        noneThen();
        noneWhateverElseIsTold();
        theTwoEndsCount();
        inWhateverOrder();
        theSameTwice();
        noAct();
        Due.end();
    }

    private static void minutes0To60() {
        for (int n : new int[] {-2, 61, Integer.MIN_VALUE, Integer.MAX_VALUE}) {
            Edge.refused("n " + n, -2, x -> x.note(n, 0, 0));
        }
        NextStall x = Due.of(MinuteTest.FAIR);
        Due.is("the first", x.note(0, 0, 0), 1);
        Due.is("the last", x.note(60, 0, 0), 2);
    }

    private static void stallsThatThereAre() {
        Edge.refusedBeyond("stall", 0, 2, -2, (x, stall) -> x.note(0, stall, 0));
        Due.is("no STALLS", Due.of("fair 1 0").note(0, 0, 0), -2);
        NextStall six = Due.of(Edge.SIX_STALLS);
        Due.is("of six the last one", six.note(0, 5, 0), 1);
        Due.is("a seventh", six.note(0, 6, 0), -2);
    }

    private static void tills0To9999() {
        Edge.refusedBeyond("till", 0, 9999, -2, (x, till) -> x.note(0, 0, till));
        NextStall x = Due.of(MinuteTest.FAIR);
        Due.is("nothing in it", x.note(0, 0, 0), 1);
        Due.is("the most", x.note(0, 0, 9999), 2);
        Due.is("no RULE takes so much", x.ruled(0), 0);
    }

    private static NextStall tenNotes() {
        NextStall x = Edge.rich();
        for (int i = 3; i <= 10; i++) {
            Due.is("how many", x.note(i, 1, 0), i);
        }
        return x;
    }

    private static void tenAtMost() {
        Due.is("NOTES", tenNotes().count(10), 10);
        Edge.unchanged("an eleventh", -2, Promise28NoteTest::tenNotes, x -> x.note(0, 0, 0));
        Edge.unchanged("an eleventh that is wrong", -2, Promise28NoteTest::tenNotes, x -> x.note(61, 0, 0));
        NextStall x = tenNotes();
        Due.is("none then", x.note(-1, 0, 0), 0);
        Due.is("the first again", x.note(0, 0, 0), 1);
    }

    private static void noneThen() {
        NextStall x = Due.of(MinuteTest.FAIR);
        Due.is("there were none", x.note(-1, 0, 0), 0);
        x.note(0, 0, 9999);
        Due.is("no RULE is so", x.ruled(0), 0);
        Due.is("none then", x.note(-1, 0, 0), 0);
        Due.is("NOTES", x.count(10), 0);
        Due.is("so it is without", x.ruled(0), 1);
    }

    private static void noneWhateverElseIsTold() {
        NextStall x = Due.of(MinuteTest.FAIR);
        x.note(0, 0, 0);
        Due.is("a STALL and a TILL that can't be", x.note(-1, 99, -5), 0);
        Due.is("NOTES", x.count(10), 0);
        Due.is("without a FAIR", new NextStall().note(-1, 0, 0), 0);
    }

    private static void theTwoEndsCount() {
        // One piece for 3 in MINUTE 0, another one in MINUTE 60.
        NextStall x = Edge.ruledBy("fair 20 0;stall 9 3 0;buyer 9 0", "buy 1 if minute = 0 and [day = 0 or day = 3]");
        x.note(0, 0, 3);
        x.note(60, 0, 3);
        Due.is("both", x.rings(-1), 1);
        x.note(59, 0, 0);
        Due.is("and the one ahead", x.rings(-1), 1);
        x.note(18, 0, 3);
        x.note(19, 0, 0);
        Due.is("at DUSK the TILL is empty", x.rings(-1), 1);
        x.note(60, 0, 0);
        Due.is("not both 3 and 0", x.rings(-1), 0);
    }

    private static void inWhateverOrder() {
        NextStall x = Due.of("fair 20 0;stall 20 1 0;buyer 99 0");
        int[] order = {9, 0, 5, 3, 7, 1, 8, 2, 6, 4};
        for (int n : order) {
            x.note(n, 0, n + 1);
        }
        Due.is("all are so", x.ruled(0), 1);
        NextStall y = Due.of("fair 20 0;stall 20 1 0;buyer 99 0");
        for (int n : order) {
            y.note(n, 0, n == 3 ? 0 : n + 1);
        }
        Due.is("but for one", y.ruled(0), 0);
    }

    private static void theSameTwice() {
        NextStall x = Due.of(MinuteTest.FAIR);
        Due.is("once", x.note(0, 1, 16), 1);
        Due.is("twice", x.note(0, 1, 16), 2);
        Due.is("it is so", x.ruled(0), 1);
    }

    private static void noAct() {
        NextStall x = Due.of(MinuteTest.FAIR);
        x.note(0, 1, 16);
        Due.is("ACTS", x.count(11), 0);
        x.minute();
        x.undo();
        Due.is("NOTES", x.count(10), 1);
    }
}
