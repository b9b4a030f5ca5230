/** Promises 11 to 15: move, price, grudge, earn, undo. */
public final class ActsTest {
    public static void main(String[] args) {
        moves();
        prices();
        grudges();
        earnings();
        undone();
        twentyAtMost();
        tillGoesToWhoStandsBehind();
        Due.end();
    }

    private static void moves() {
        NextStall x = Due.of(MinuteTest.FAIR);
        Due.is("move(0, 2)", x.move(0, 2), 2);
        Due.is("where 0", x.stall(0, 4), 2);
        Due.is("where 1", x.stall(1, 4), 1);
        Due.is("where 2", x.stall(2, 4), 0);
        Due.is("who sells 2's", x.stall(2, 5), 0);
        Due.is("who sells 1's", x.stall(1, 5), 2);
        Due.is("who sells 0's", x.stall(0, 5), 1);
        Due.is("PRAISE of 0's", x.stall(0, 6), 9);
        Due.is("PRAISE of 1's", x.stall(1, 6), 3);
        Due.is("PRAISE of 2's", x.stall(2, 6), 6);
        Due.is("move(1, 0)", x.move(1, 0), 2);
        Due.is("where 0", x.stall(0, 4), 1);
        Due.is("move(1, 1)", x.move(1, 1), -1);
        Due.is("move(0, 3)", x.move(0, 3), -1);
        Due.is("move(-1, 0)", x.move(-1, 0), -1);
        Due.is("ACTS", x.count(11), 2);
    }

    private static void prices() {
        NextStall x = Due.of(MinuteTest.FAIR);
        Due.is("price(1, 40)", x.price(1, 40), 2);
        Due.is("PRICE", x.stall(1, 1), 40);
        Due.is("CAN", x.buyer(0, 2), 5);
        Due.is("the same", x.price(1, 40), -1);
        Due.is("price(1, 0)", x.price(1, 0), -1);
        Due.is("price(1, 41)", x.price(1, 41), -1);
        Due.is("price(3, 1)", x.price(3, 1), -1);
        Due.is("price(-1, 1)", x.price(-1, 1), -1);
        Due.is("price(1, 1)", x.price(1, 1), 40);
        Due.is("ACTS", x.count(11), 2);
    }

    private static void grudges() {
        NextStall x = Due.of(MinuteTest.FAIR);
        Due.is("none any more", x.grudge(0, 1), 0);
        Due.is("PRAISE", x.stall(1, 6), 6);
        Due.is("whom", x.stall(0, 7), 0);
        Due.is("another", x.grudge(2, 0), 1);
        Due.is("PRAISE", x.stall(0, 6), 1);
        Due.is("and another", x.grudge(2, 1), 1);
        Due.is("whom", x.stall(2, 7), 3);
        Due.is("alike", x.grudge(1, 1), -1);
        Due.is("grudge(3, 0)", x.grudge(3, 0), -1);
        Due.is("grudge(0, -1)", x.grudge(0, -1), -1);
        Due.is("ACTS", x.count(11), 3);
    }

    private static void earnings() {
        NextStall x = Due.of(MinuteTest.FAIR);
        Due.is("earn(1, 1)", x.earn(1, 1), 10);
        Due.is("earn(1, 0)", x.earn(1, 0), -1);
        Due.is("earn(1, 100)", x.earn(1, 100), -1);
        Due.is("earn(2, 1)", x.earn(2, 1), -1);
        Due.is("earn(-1, 1)", x.earn(-1, 1), -1);
        for (int i = 1; i <= 9; i++) {
            Due.is("earn(1, 99)", x.earn(1, 99), 10 + 99 * i);
        }
        Due.is("999 at most", x.earn(1, 99), 999);
        Due.is("PURSE", x.buyer(1, 0), 999);
        Due.is("ACTS", x.count(11), 11);
    }

    private static void undone() {
        NextStall x = Due.of(MinuteTest.FAIR, "buy 1");
        x.minute();
        x.minute();
        x.minute();
        x.move(0, 1);
        x.price(2, 1);
        x.grudge(0, 1);
        x.earn(0, 9);
        x.force(0);
        x.seed(5);
        x.note(0, 0, 0);
        Due.is("EARN undone", x.undo(), 6);
        Due.is("PURSE", x.buyer(0, 0), 2);
        Due.is("GRUDGE undone", x.undo(), 5);
        Due.is("whom", x.stall(0, 7), 2);
        Due.is("PRICE undone", x.undo(), 4);
        Due.is("PRICE", x.stall(2, 1), 8);
        Due.is("MOVE undone", x.undo(), 3);
        Due.is("where", x.stall(0, 4), 0);
        Due.is("who sells", x.stall(0, 5), 2);
        Due.is("PRAISE", x.stall(0, 6), 3);
        Due.is("a MINUTE undone", x.undo(), 2);
        Due.is("MINUTE", x.count(6), 2);
        Due.is("TILL", x.stall(1, 2), 24);
        Due.is("WEALTH", x.count(8), 0);
        Due.is("PURSE", x.buyer(0, 0), 4);
        Due.is("had", x.had(0, 1), 0);
        Due.is("undo", x.undo(), 1);
        Due.is("undo", x.undo(), 0);
        Due.is("undo", x.undo(), -1);
        Due.is("MINUTE", x.count(6), 0);
        Due.is("GOODS", x.count(7), 12);
        Due.is("sold", x.stall(2, 8), 0);
        Due.is("the RULE IN FORCE stays", x.count(5), 0);
        Due.is("x stays", x.count(12), 5);
        Due.is("NOTES stay", x.count(10), 1);
    }

    private static void twentyAtMost() {
        NextStall x = Due.of("fair 1 0;stall 20 1 0;buyer 99 0");
        for (int i = 1; i <= 25; i++) {
            x.earn(0, 1);
            Due.is("ACTS", x.count(11), Math.min(20, i));
        }
        for (int i = 19; i >= 0; i--) {
            Due.is("undo", x.undo(), i);
        }
        Due.is("no more", x.undo(), -1);
        Due.is("PURSE", x.buyer(0, 0), 104);
        x.earn(0, 7);
        Due.is("one more", x.undo(), 0);
        Due.is("PURSE", x.buyer(0, 0), 104);
    }

    private static void tillGoesToWhoStandsBehind() {
        NextStall x = Due.of("fair 2 0;stall 5 10 0;stall 5 9 0;stall 5 8 0;buyer 10 0");
        Due.is("MINUTE 0", x.minute(), 10);
        Due.is("who sold", x.stall(2, 2), 10);
        x.move(0, 1);
        Due.is("MINUTE 1", x.minute(), 0);
        Due.is("behind 2 stands 1", x.stall(1, 3), 10);
        Due.is("WEALTH of 0", x.stall(0, 3), 0);
    }
}
