/** Promises 34 to 36: count, image, back. */
public final class ImageTest {
    public static void main(String[] args) {
        wrongNumbers();
        allIsAsItWas();
        tapeAndRulesStay();
        anotherFair();
        withoutAFair();
        Due.end();
    }

    private static void wrongNumbers() {
        NextStall x = Due.of(MinuteTest.FAIR);
        int[] wrong = {-1, 4, Integer.MIN_VALUE, Integer.MAX_VALUE};
        for (int k : wrong) {
            Due.is("image(" + k + ")", x.image(k), -1);
            Due.is("back(" + k + ")", x.back(k), -1);
        }
        x.minute();
        Due.is("never made", x.back(3), -1);
        Due.is("ACTS stay", x.count(11), 1);
        Due.is("image(3)", x.image(3), 1);
        Due.is("another one", x.back(2), -1);
        Due.is("back(3)", x.back(3), 1);
    }

    private static void allIsAsItWas() {
        NextStall x = Due.of(MinuteTest.FAIR, "buy 1");
        x.minute();
        x.force(0);
        x.seed(9);
        x.note(0, 1, 16);
        Due.is("image", x.image(0), 1);
        Due.is("ACTS stay", x.count(11), 1);
        x.minute();
        x.minute();
        x.move(0, 1);
        x.price(0, 9);
        x.grudge(1, 2);
        x.earn(0, 5);
        x.force(-1);
        x.seed(3);
        x.note(2, 0, 0);
        Due.is("another image", x.image(1), 3);
        Due.is("back", x.back(0), 1);
        int[] counts = {3, 2, 3, 2, 1, 0, 1, 10, 0, 16, 1, 0, 9, 0};
        for (int what = 0; what < counts.length; what++) {
            Due.is("count(" + what + ")", x.count(what), counts[what]);
        }
        Due.is("nothing can be UNDONE", x.undo(), -1);
        Due.is("where", x.stall(0, 4), 0);
        Due.is("PRICE", x.stall(0, 1), 5);
        Due.is("grudges", x.stall(1, 7), 0);
        Due.is("PURSE", x.buyer(0, 0), 12);
        Due.is("had", x.had(0, 2), 1);
        Due.is("back", x.back(1), 3);
        Due.is("x", x.count(12), 3);
        Due.is("NOTES", x.count(10), 2);
        Due.is("PRICE", x.stall(0, 1), 9);
        Due.is("where", x.stall(0, 4), 1);
        Due.is("the RULE IN FORCE", x.count(5), -1);
        x.minute();
        Due.is("an image stays as it is", x.back(1), 3);
        Due.is("made anew", x.image(0), 3);
        Due.is("made anew", x.back(0), 3);
    }

    private static void tapeAndRulesStay() {
        NextStall x = Due.of(MinuteTest.FAIR);
        x.image(0);
        Due.rule(x, "buy 1");
        x.force(0);
        x.feed(1, 2, 3, 4, 5);
        Due.is("back", x.back(0), 0);
        Due.is("RULES", x.count(4), 1);
        Due.is("the RULE IN FORCE", x.count(5), -1);
        Due.is("TAPE", x.count(13), 20);
    }

    private static void anotherFair() {
        NextStall x = Due.of(MinuteTest.FAIR);
        x.minute();
        x.note(0, 1, 16);
        x.image(2);
        Due.fair(x, "fair 1 1;stall 1 1 1");
        Due.is("STALLS", x.count(2), 1);
        Due.is("back", x.back(2), 1);
        Due.is("STALLS", x.count(2), 3);
        Due.is("as the text told it", x.ruled(0), 1);
        Due.is("as the text told it", x.rings(-1), 1);
    }

    private static void withoutAFair() {
        NextStall x = new NextStall();
        x.seed(4);
        Due.is("image", x.image(0), 0);
        Due.fair(x, MinuteTest.FAIR);
        x.seed(5);
        x.minute();
        Due.is("back", x.back(0), 0);
        Due.is("no FAIR", x.minute(), -1);
        Due.is("x", x.count(12), 4);
        Due.is("STALLS", x.count(2), 0);
    }
}
