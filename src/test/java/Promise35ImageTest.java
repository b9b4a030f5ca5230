/** Promise 35, image: an IMAGE (0 to 3) is made, MINUTE; NONE without it. */
public final class Promise35ImageTest {
    public static void main(String[] args) {
        images0To3();
        allFour();
        itsMinute();
        withoutAFair();
        inPlaceOfTheOneThereWas();
        nothingElseChanges();
        itStaysAsItWasMade();
        noAct();
        Due.end();
    }

    private static void images0To3() {
        Edge.refusedBeyond("image", 0, 3, -1, (x, k) -> x.image(k));
    }

    private static void allFour() {
        NextStall x = Due.of(Edge.ONE_A_DAY);
        for (int k = 0; k < 4; k++) {
            Due.is("image(" + k + ")", x.image(k), k);
            x.minute();
        }
        for (int k = 3; k >= 0; k--) {
            Due.is("back(" + k + ")", x.back(k), k);
            Due.is("GOODS", x.stall(0, 0), 20 - k);
        }
    }

    private static void itsMinute() {
        NextStall x = Due.of(Edge.ONE_A_DAY);
        Due.is("MINUTE 0", x.image(0), 0);
        x.minute();
        Due.is("MINUTE 1", x.image(0), 1);
        x.undo();
        Due.is("MINUTE 0 again", x.image(0), 0);
    }

    private static void withoutAFair() {
        NextStall x = new NextStall();
        Due.is("without a FAIR", x.image(3), 0);
        Due.is("without it", x.image(4), -1);
        Due.fair(x, Edge.ONE_A_DAY);
        x.minute();
        Due.is("gone back to", x.back(3), 0);
        Due.is("no FAIR", x.taken(0), -1);
    }

    private static void inPlaceOfTheOneThereWas() {
        NextStall x = Due.of(Edge.ONE_A_DAY);
        x.image(0);
        x.minute();
        x.image(0);
        x.minute();
        Due.is("the last one made", x.back(0), 1);
    }

    private static void nothingElseChanges() {
        NextStall x = Edge.rich();
        int[] before = new int[14];
        for (int what = 0; what <= 13; what++) {
            before[what] = x.count(what);
        }
        Due.is("image", x.image(0), 3);
        for (int what = 0; what <= 13; what++) {
            Due.is("count(" + what + ")", x.count(what), before[what]);
        }
        Due.is("the others", x.back(1), 1);
        Due.is("the others", x.back(3), 2);
        Due.is("never made", x.back(2), -1);
    }

    private static void itStaysAsItWasMade() {
        NextStall x = Due.of(MinuteTest.FAIR, "buy 0");
        x.image(0);
        x.minute();
        x.price(0, 9);
        x.grudge(1, 0);
        x.move(0, 2);
        x.earn(0, 9);
        x.note(0, 0, 5);
        x.seed(8);
        x.force(0);
        x.back(0);
        Due.is("MINUTE", x.count(6), 0);
        Due.is("GOODS", x.count(7), 12);
        Due.is("TILLS", x.count(9), 0);
        Due.is("PRICE", x.stall(0, 1), 5);
        Due.is("grudges", x.stall(1, 7), 0);
        Due.is("where", x.stall(0, 4), 0);
        Due.is("who sells", x.stall(0, 5), 2);
        Due.is("PRAISE", x.stall(0, 6), 3);
        Due.is("sold", x.stall(2, 8), 0);
        Due.is("PURSE", x.buyer(0, 0), 20);
        Due.is("had", x.had(0, 2), 0);
        Due.is("NOTES", x.count(10), 0);
        Due.is("x", x.count(12), 0);
        Due.is("the RULE IN FORCE", x.count(5), -1);
    }

    private static void noAct() {
        NextStall x = Due.of(Edge.ONE_A_DAY);
        x.minute();
        x.image(0);
        Due.is("ACTS", x.count(11), 1);
        Due.is("undo", x.undo(), 0);
        Due.is("the IMAGE", x.back(0), 1);
    }
}
