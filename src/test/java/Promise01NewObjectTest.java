/** Promise 1, a new object: no FAIR, no RULES, none IN FORCE. */
public final class Promise01NewObjectTest {
    public static void main(String[] args) {
        everythingIsEmpty();
        noFairForStallsAndBuyers();
        noFairForActs();
        noFairForWhatIsAsked();
        noFairForNotes();
        noRules();
        noneInForce();
        noImages();
        objectsShareNothing();
        upToThe512thCall();
        Due.end();
    }

    private static void everythingIsEmpty() {
        NextStall x = new NextStall();
        for (int what = 0; what <= 13; what++) {
            Due.is("count(" + what + ") of a new one", x.count(what), what == 5 ? -1 : 0);
        }
    }

    private static void noFairForStallsAndBuyers() {
        NextStall x = new NextStall();
        for (int i = 0; i < 6; i++) {
            Due.is("stall without a FAIR", x.stall(i, 0), -1);
            Due.is("buyer without a FAIR", x.buyer(i, 0), -1);
            Due.is("had without a FAIR", x.had(i, i), -1);
        }
    }

    private static void noFairForActs() {
        NextStall x = new NextStall();
        Due.is("minute without a FAIR", x.minute(), -1);
        Due.is("move without a FAIR", x.move(0, 1), -1);
        Due.is("price without a FAIR", x.price(0, 1), -1);
        Due.is("grudge without a FAIR", x.grudge(0, 1), -1);
        Due.is("earn without a FAIR", x.earn(0, 1), -1);
        Due.is("undo without a FAIR", x.undo(), -1);
        Due.is("no ACT", x.count(11), 0);
        Due.is("MINUTE", x.count(6), 0);
    }

    private static void noFairForWhatIsAsked() {
        NextStall x = new NextStall();
        Due.is("ahead without a FAIR", x.ahead(0, 0, 0), -1);
        Due.is("out without a FAIR", x.out(0), -1);
        Due.is("taken without a FAIR", x.taken(0), -1);
        Due.is("bestRing without a FAIR", x.bestRing(1, -1), -3);
        Due.is("bestRing without a FAIR", x.bestRing(1, 0), -3);
        Due.is("quietRing without a FAIR", x.quietRing(-1), -3);
        Due.is("quietRing without a FAIR", x.quietRing(0), -3);
        Due.is("fairPrice without a FAIR", x.fairPrice(0, 1, 0), -1);
        Due.is("rests without a FAIR", x.rests(0, 1, 1, 0), -1);
        Due.is("commission without a FAIR", x.commission(0, 1, 0), -1);
        Due.is("makeUp without a FAIR", x.makeUp(1, 0), -1);
        Due.is("away without a FAIR", x.away(1, 0), -2);
        Due.is("swaps without a FAIR", x.swaps(1, 0), -1);
        Due.is("pence without a FAIR", x.pence(0, 0), -1);
        Due.is("rains without a FAIR", x.rains(1, 1, 0, 0), -1);
    }

    private static void noFairForNotes() {
        NextStall x = new NextStall();
        Due.is("note without a FAIR", x.note(0, 0, 0), -2);
        Due.is("there are none then", x.note(-1, 0, 0), 0);
        Due.is("ruled without a FAIR", x.ruled(0), -3);
        Due.is("look without a FAIR", x.look(0, 0), -1);
        Due.is("rings without a FAIR", x.rings(-1), -3);
        Due.is("NOTES", x.count(10), 0);
    }

    private static void noRules() {
        NextStall x = new NextStall();
        for (int rule = 0; rule < 6; rule++) {
            Due.is("no RULE " + rule, x.force(rule), -2);
        }
        Due.is("the first RULE has the number 0", Due.rule(x, "buy 1"), 0);
    }

    private static void noneInForce() {
        Due.is("none was IN FORCE", new NextStall().force(-1), -1);
        NextStall x = new NextStall();
        Due.rule(x, "buy 1");
        Due.is("a RULE is not IN FORCE by being told", x.count(5), -1);
        Due.is("none was IN FORCE", x.force(0), -1);
    }

    private static void noImages() {
        NextStall x = new NextStall();
        for (int image = 0; image < 4; image++) {
            Due.is("no IMAGE " + image, x.back(image), -1);
        }
    }

    private static void objectsShareNothing() {
        NextStall x = Edge.rich();
        NextStall y = new NextStall();
        for (int what = 0; what <= 13; what++) {
            Due.is("count(" + what + ") of a second one", y.count(what), what == 5 ? -1 : 0);
        }
        Due.is("no IMAGE of the first one", y.back(1), -1);
        Due.is("the first one is as it was", x.count(6), 3);
    }

    /** An object is used for at most 512 calls: all of them are answered as told. */
    private static void upToThe512thCall() {
        NextStall x = new NextStall();
        // "fair 1 0;stall 1 1 1": call 1, and call 2 reads it.
        x.feed(0x66616972, 0x20312030, 0x3b737461, 0x6c6c2031, 0x20312031);
        Due.is("fair", x.fair(), 1);
        for (int call = 3; call <= 510; call++) {
            Due.is("call " + call, x.minute(), 0);
        }
        Due.is("call 511", x.undo(), 19);
        Due.is("call 512", x.count(6), 507);
    }
}
