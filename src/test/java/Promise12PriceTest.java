/** Promise 12, price: which it was; NONE, and nothing happens, without these (another one). */
public final class Promise12PriceTest {
    public static void main(String[] args) {
        stallsThatThereAre();
        prices1To40();
        anotherOne();
        ofSixTheLast();
        whatIsPaidThen();
        anAct();
        Due.end();
    }

    private static void stallsThatThereAre() {
        Edge.refusedBeyond("stall", 0, 2, -1, (x, stall) -> x.price(stall, 7));
        Due.is("no STALLS", Due.of("fair 1 0").price(0, 7), -1);
    }

    private static void prices1To40() {
        Edge.refusedBeyond("price", 1, 40, -1, (x, price) -> x.price(0, price));
        NextStall x = Due.of(MinuteTest.FAIR);
        Due.is("the least", x.price(0, 1), 5);
        Due.is("PRICE", x.stall(0, 1), 1);
        Due.is("the most", x.price(0, 40), 1);
        Due.is("PRICE", x.stall(0, 1), 40);
        Due.is("others' PRICE", x.stall(1, 1), 2);
    }

    private static void anotherOne() {
        // Prices of Edge.rich are 5, 2 and 4.
        Edge.refused("what it is", -1, x -> x.price(0, 5));
        Edge.refused("what it is", -1, x -> x.price(2, 4));
        NextStall x = Due.of(MinuteTest.FAIR);
        Due.is("one more", x.price(0, 6), 5);
        Due.is("what it is then", x.price(0, 6), -1);
        Due.is("one less", x.price(0, 5), 6);
        Due.is("ACTS", x.count(11), 2);
    }

    private static void ofSixTheLast() {
        NextStall x = Due.of(Edge.SIX_STALLS);
        Due.is("the last one", x.price(5, 40), 1);
        Due.is("a seventh", x.price(6, 40), -1);
        Due.is("PRICE", x.stall(5, 1), 40);
    }

    private static void whatIsPaidThen() {
        NextStall x = Due.of("fair 1 0;stall 9 1 0;buyer 40 0");
        x.price(0, 40);
        Due.is("paid", x.minute(), 40);
        Due.is("PURSE", x.buyer(0, 0), 0);
        Due.is("WEALTH", x.stall(0, 3), 40);
    }

    private static void anAct() {
        NextStall x = Due.of(MinuteTest.FAIR);
        x.price(0, 40);
        Due.is("ACTS", x.count(11), 1);
        Due.is("undone", x.undo(), 0);
        Due.is("PRICE", x.stall(0, 1), 5);
    }
}
