/** Promise 15, undo: the last ACT is UNDONE, how many more can be; NONE, and nothing happens: none can. */
public final class Promise15UndoTest {
    public static void main(String[] args) {
        noneCan();
        theLast20();
        theLastFirst();
        eachKind();
        anewBehindUndone();
        refusedCallsAreNoActs();
        whatIsNoActStays();
        noneBehindAnotherFair();
        noneBehindAnImage();
        whatIsUndoneIsGone();
        Due.end();
    }

    private static void noneCan() {
        Due.is("without a FAIR", new NextStall().undo(), -1);
        NextStall x = Due.of(MinuteTest.FAIR);
        Due.is("no ACT", x.undo(), -1);
        x.minute();
        Due.is("one", x.undo(), 0);
        Due.is("no more", x.undo(), -1);
        Edge.unchanged("nothing happens", -1, Promise15UndoTest::richOfNoActs, NextStall::undo);
    }

    private static NextStall richOfNoActs() {
        NextStall x = Edge.rich();
        x.image(2);
        x.back(2);
        return x;
    }

    private static NextStall earned(int times) {
        NextStall x = Due.of("fair 1 0;stall 1 1 1;buyer 0 0");
        for (int i = 1; i <= times; i++) {
            x.earn(0, 1);
            Due.is("ACTS that can be UNDONE", x.count(11), Math.min(20, i));
        }
        return x;
    }

    private static void theLast20() {
        for (int times : new int[] {1, 19, 20, 21, 39, 40, 41}) {
            NextStall x = earned(times);
            int kept = Math.min(20, times);
            for (int i = 1; i <= kept; i++) {
                Due.is("how many more", x.undo(), kept - i);
                Due.is("PURSE", x.buyer(0, 0), times - i);
            }
            Due.is("one more", x.undo(), -1);
            Due.is("PURSE", x.buyer(0, 0), times - kept);
            Due.is("ACTS", x.count(11), 0);
        }
    }

    private static void theLastFirst() {
        NextStall x = Due.of("fair 1 0;stall 9 1 1;buyer 0 0");
        x.earn(0, 5);
        x.price(0, 3);
        x.minute();
        Due.is("the MINUTE", x.undo(), 2);
        Due.is("MINUTE", x.count(6), 0);
        Due.is("PRICE", x.stall(0, 1), 3);
        Due.is("the PRICE", x.undo(), 1);
        Due.is("PRICE", x.stall(0, 1), 1);
        Due.is("PURSE", x.buyer(0, 0), 5);
        Due.is("the EARN", x.undo(), 0);
        Due.is("PURSE", x.buyer(0, 0), 0);
    }

    private static void eachKind() {
        Edge.unchanged("a MINUTE", 7, Edge::rich, x -> x.minute() < 0 ? -1 : x.undo());
        Edge.unchanged("a MOVE", 7, Edge::rich, x -> x.move(0, 2) < 0 ? -1 : x.undo());
        Edge.unchanged("a PRICE", 7, Edge::rich, x -> x.price(0, 40) < 0 ? -1 : x.undo());
        Edge.unchanged("a GRUDGE that is", 7, Edge::rich, x -> x.grudge(1, 2) < 0 ? -1 : x.undo());
        Edge.unchanged("a GRUDGE that is none", 7, Edge::rich, x -> x.grudge(0, 1) < 0 ? -1 : x.undo());
        Edge.unchanged("an EARN", 7, Edge::rich, x -> x.earn(1, 99) < 0 ? -1 : x.undo());
        // At DUSK all is handed on.
        NextStall x = Due.of(MinuteTest.FAIR);
        x.minute();
        x.minute();
        Due.is("TILL", x.stall(1, 2), 24);
        x.minute();
        Due.is("WEALTH", x.count(8), 26);
        x.undo();
        Due.is("WEALTH", x.count(8), 0);
        Due.is("TILL", x.stall(1, 2), 24);
        Due.is("the same MINUTE again", x.minute(), 2);
        Due.is("WEALTH", x.count(8), 26);
    }

    private static void anewBehindUndone() {
        NextStall x = earned(20);
        x.undo();
        x.undo();
        Due.is("ACTS", x.count(11), 18);
        x.earn(0, 9);
        Due.is("ACTS", x.count(11), 19);
        Due.is("PURSE", x.buyer(0, 0), 27);
        for (int i = 18; i >= 0; i--) {
            Due.is("how many more", x.undo(), i);
            Due.is("PURSE", x.buyer(0, 0), i);
        }
        Due.is("none", x.undo(), -1);
    }

    private static void refusedCallsAreNoActs() {
        NextStall x = Due.of(MinuteTest.FAIR);
        x.earn(0, 1);
        x.earn(0, 0);
        x.earn(2, 1);
        x.move(1, 1);
        x.price(0, 5);
        x.price(0, 41);
        x.grudge(2, 2);
        Due.is("ACTS", x.count(11), 1);
        Due.is("the EARN", x.undo(), 0);
        Due.is("PURSE", x.buyer(0, 0), 20);
    }

    private static void whatIsNoActStays() {
        NextStall x = Due.of(MinuteTest.FAIR, "buy 1");
        x.minute();
        x.force(0);
        x.seed(5);
        x.note(0, 0, 0);
        Due.rule(x, "buy 2");
        x.image(0);
        x.feed(1, 2, 3, 4, 5);
        Due.is("ACTS", x.count(11), 1);
        Due.is("the MINUTE", x.undo(), 0);
        Due.is("the RULE IN FORCE", x.count(5), 0);
        Due.is("x", x.count(12), 5);
        Due.is("NOTES", x.count(10), 1);
        Due.is("RULES", x.count(4), 2);
        Due.is("TAPE", x.count(13), 20);
        Due.is("the IMAGE", x.back(0), 1);
    }

    private static void noneBehindAnotherFair() {
        NextStall x = earned(20);
        Due.fair(x, Edge.ONE_A_DAY);
        Due.is("none", x.undo(), -1);
        x.minute();
        Due.is("one of the other", x.undo(), 0);
        Due.is("none", x.undo(), -1);
        Due.is("PURSE", x.buyer(0, 0), 99);
    }

    private static void noneBehindAnImage() {
        NextStall x = earned(20);
        x.image(0);
        Due.is("an IMAGE that is made leaves them", x.count(11), 20);
        x.back(0);
        Due.is("none", x.undo(), -1);
        Due.is("PURSE", x.buyer(0, 0), 20);
    }

    private static void whatIsUndoneIsGone() {
        NextStall x = earned(3);
        x.undo();
        x.undo();
        Due.is("to undo is no ACT", x.count(11), 1);
        Due.is("PURSE", x.buyer(0, 0), 1);
        Due.is("the last one", x.undo(), 0);
        Due.is("PURSE", x.buyer(0, 0), 0);
    }
}
