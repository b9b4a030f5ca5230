/** Promise 2, feed: twenty bytes come behind the TAPE, of each number the highest first; 400 at most. */
public final class Promise02FeedTest {
    private static final int BLANKS = 0x20202020;
    private static final int FAIR = 0x66616972;
    private static final int ONE_NOUGHT = 0x20312030;

    public static void main(String[] args) {
        twentyBytesEach();
        theHighestFirst();
        theyComeBehind();
        fourHundredAreTaken();
        oneMoreIsRefused();
        fullIsRefused();
        noneComesThen();
        allBytesAreRead();
        Due.end();
    }

    private static void twentyBytesEach() {
        NextStall x = new NextStall();
        Due.is("the first", x.feed(0, 0, 0, 0, 0), 20);
        Due.is("the second", x.feed(-1, -1, -1, -1, -1), 40);
        Due.is("the third", x.feed(Integer.MIN_VALUE, Integer.MAX_VALUE, 1, 2, 3), 60);
        Due.is("bytes of the TAPE", x.count(13), 60);
    }

    /** A byte of 255 can't stand anywhere: its place in the text is where it was put. */
    private static void theHighestFirst() {
        for (int place = 8; place < 20; place++) {
            int[] words = {FAIR, ONE_NOUGHT, BLANKS, BLANKS, BLANKS};
            words[place / 4] |= 255 << 24 - 8 * (place % 4);
            NextStall x = new NextStall();
            x.feed(words[0], words[1], words[2], words[3], words[4]);
            Due.is("a fault at byte " + place, x.fair(), Due.fault(place, 0));
        }
        NextStall x = new NextStall();
        x.feed(FAIR, ONE_NOUGHT, BLANKS, BLANKS, BLANKS);
        Due.is("without such a byte", x.fair(), 0);
    }

    private static void theyComeBehind() {
        NextStall x = new NextStall();
        x.feed(FAIR, ONE_NOUGHT, BLANKS, BLANKS, BLANKS);
        // ";stall 1 2 3"
        x.feed(0x3b737461, 0x6c6c2031, 0x20322033, BLANKS, BLANKS);
        Due.is("a FAIR of two feeds", x.fair(), 1);
        Due.is("GOODS", x.stall(0, 0), 1);
        Due.is("PRICE", x.stall(0, 1), 2);
        Due.is("PRAISE", x.stall(0, 6), 3);
        x.feed(FAIR, ONE_NOUGHT, -1, -1, -1);
        x.end(8);
        Due.is("behind what was left", x.feed(0x3b737461, 0x6c6c2034, 0x20352036, BLANKS, BLANKS), 28);
        Due.is("a FAIR of what was left and one feed", x.fair(), 1);
        Due.is("GOODS", x.stall(0, 0), 4);
    }

    private static NextStall fed(int times) {
        NextStall x = new NextStall();
        for (int i = 0; i < times; i++) {
            x.feed(i == 0 ? FAIR : BLANKS, i == 0 ? ONE_NOUGHT : BLANKS, BLANKS, BLANKS, BLANKS);
        }
        return x;
    }

    private static void fourHundredAreTaken() {
        NextStall x = fed(19);
        Due.is("bytes", x.count(13), 380);
        Due.is("the twentieth", x.feed(BLANKS, BLANKS, BLANKS, BLANKS, BLANKS), 400);
        Due.is("bytes", x.count(13), 400);
    }

    private static void oneMoreIsRefused() {
        NextStall x = fed(20);
        Due.is("381 are left", x.end(381), 381);
        Due.is("401 would be too many", x.feed(0, 0, 0, 0, 0), -1);
        Due.is("380 are left", x.end(380), 380);
        Due.is("400 are not", x.feed(0, 0, 0, 0, 0), 400);
    }

    private static void fullIsRefused() {
        for (int left = 381; left <= 400; left++) {
            NextStall x = fed(20);
            x.end(left);
            Due.is("behind " + left, x.feed(-1, -1, -1, -1, -1), -1);
            Due.is("bytes", x.count(13), left);
            Due.is("the text is as it was", x.fair(), 0);
        }
    }

    /** Of a feed that is refused not even those bytes come for which there is room. */
    private static void noneComesThen() {
        NextStall x = fed(20);
        x.end(390);
        Due.is("ten too many", x.feed(-1, -1, -1, -1, -1), -1);
        Due.is("NONE again", x.feed(-1, -1, -1, -1, -1), -1);
        Due.is("bytes", x.count(13), 390);
        Due.is("the text is as it was", x.fair(), 0);
        Due.is("behind a text that was taken", x.feed(0, 0, 0, 0, 0), 20);
        Edge.unchanged("refused", -1, Promise02FeedTest::richAndFull, y -> y.feed(-1, -1, -1, -1, -1));
    }

    private static NextStall richAndFull() {
        NextStall x = Edge.rich();
        for (int i = 0; i < 19; i++) {
            x.feed(BLANKS, BLANKS, BLANKS, BLANKS, BLANKS);
        }
        return x;
    }

    private static void allBytesAreRead() {
        Edge.fairTaken("fair 1 0" + " ".repeat(392), 0);
        Edge.fairTaken(" ".repeat(392) + "fair 1 0", 0);
        Edge.fairFault("fair 1 0" + " ".repeat(391), "x", 0);
        Edge.fairFault("fair 1 0" + " ".repeat(391) + ";", "", 0);
        Edge.ruleTaken("buy 1" + " ".repeat(395));
        Edge.ruleTaken(" ".repeat(395) + "buy 1");
        Edge.ruleFault("buy 1" + " ".repeat(394), "x", 0);
        Edge.ruleFault("buy 1" + " ".repeat(394) + "+", "", 0);
    }
}
