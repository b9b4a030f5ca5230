/** Promises 1 to 3: a new object, feed, end. */
public final class FeedTest {
    public static void main(String[] args) {
        newObject();
        withoutAFair();
        feeds();
        bytesInOrder();
        ends();
        Due.is("NONE", NextStall.NONE, -1);
        Due.end();
    }

    private static void newObject() {
        NextStall x = new NextStall();
        for (int what = 0; what <= 13; what++) {
            Due.is("new count(" + what + ")", x.count(what), what == 5 ? -1 : 0);
        }
        Due.is("count(-1)", x.count(-1), -1);
        Due.is("count(14)", x.count(14), -1);
        Due.is("count(least)", x.count(Integer.MIN_VALUE), -1);
        Due.is("count(most)", x.count(Integer.MAX_VALUE), -1);
    }

    private static void withoutAFair() {
        NextStall x = new NextStall();
        Due.is("stall", x.stall(0, 0), -1);
        Due.is("buyer", x.buyer(0, 0), -1);
        Due.is("had", x.had(0, 0), -1);
        Due.is("minute", x.minute(), -1);
        Due.is("move", x.move(0, 1), -1);
        Due.is("price", x.price(0, 1), -1);
        Due.is("grudge", x.grudge(0, 1), -1);
        Due.is("earn", x.earn(0, 1), -1);
        Due.is("undo", x.undo(), -1);
        Due.is("ahead", x.ahead(0, 0, 0), -1);
        Due.is("out", x.out(0), -1);
        Due.is("taken", x.taken(0), -1);
        Due.is("bestRing", x.bestRing(1, -1), -3);
        Due.is("quietRing", x.quietRing(-1), -3);
        Due.is("fairPrice", x.fairPrice(0, 1, 0), -1);
        Due.is("rests", x.rests(0, 1, 1, 0), -1);
        Due.is("commission", x.commission(0, 1, 0), -1);
        Due.is("makeUp", x.makeUp(1, 0), -1);
        Due.is("away", x.away(1, 0), -2);
        Due.is("swaps", x.swaps(1, 0), -1);
        Due.is("pence", x.pence(1, 0), -1);
        Due.is("note", x.note(0, 0, 0), -2);
        Due.is("note(NONE)", x.note(-1, 0, 0), 0);
        Due.is("ruled", x.ruled(0), -3);
        Due.is("look", x.look(0, 0), -1);
        Due.is("rings", x.rings(-1), -3);
        Due.is("rains", x.rains(1, 1, 0, 0), -1);
        Due.is("back", x.back(0), -1);
        Due.is("force", x.force(0), -2);
        Due.is("acts", x.count(11), 0);
    }

    private static void feeds() {
        NextStall x = new NextStall();
        for (int i = 1; i <= 20; i++) {
            Due.is("feed", x.feed(-1, 0, 1, Integer.MAX_VALUE, Integer.MIN_VALUE), 20 * i);
        }
        Due.is("feed beyond 400", x.feed(0, 0, 0, 0, 0), -1);
        Due.is("bytes", x.count(13), 400);
        Due.is("end(381)", x.end(381), 381);
        Due.is("feed to 401", x.feed(0, 0, 0, 0, 0), -1);
        Due.is("bytes", x.count(13), 381);
        Due.is("end(380)", x.end(380), 380);
        Due.is("feed to 400", x.feed(0, 0, 0, 0, 0), 400);
    }

    private static void bytesInOrder() {
        NextStall x = new NextStall();
        // "fair" " 3 2" ";sta" "ll 4" " 5 6"
        Due.is("feed", x.feed(0x66616972, 0x20332032, 0x3b737461, 0x6c6c2034, 0x20352036), 20);
        Due.is("fair", x.fair(), 1);
        Due.is("LONG", x.count(0), 3);
        Due.is("KEEPS", x.count(1), 2);
        Due.is("GOODS", x.stall(0, 0), 4);
        Due.is("PRICE", x.stall(0, 1), 5);
        Due.is("PRAISE", x.stall(0, 6), 6);
        Due.is("tape is empty", x.count(13), 0);
    }

    private static void ends() {
        NextStall x = new NextStall();
        Due.is("end(0)", x.end(0), 0);
        Due.is("end(1)", x.end(1), -1);
        x.feed(0, 0, 0, 0, 0);
        Due.is("end(21)", x.end(21), -1);
        Due.is("end(-1)", x.end(-1), -1);
        Due.is("end(least)", x.end(Integer.MIN_VALUE), -1);
        Due.is("bytes stay", x.count(13), 20);
        Due.is("end(20)", x.end(20), 20);
        Due.is("end(7)", x.end(7), 7);
        Due.is("end(8)", x.end(8), -1);
        Due.is("bytes", x.count(13), 7);
    }
}
