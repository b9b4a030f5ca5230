/** Promise 32, seed: x becomes a number (0 to 2147483647; 0 at first), what it was; NONE, and nothing happens, below 0. */
public final class Promise32SeedTest {
    public static void main(String[] args) {
        zeroAtFirst();
        theLeastAndTheMost();
        below0();
        noAct();
        itStays();
        Due.end();
    }

    private static void zeroAtFirst() {
        Due.is("x", new NextStall().count(12), 0);
        Due.is("what it was", new NextStall().seed(9), 0);
    }

    private static void theLeastAndTheMost() {
        NextStall x = new NextStall();
        Due.is("the most", x.seed(Integer.MAX_VALUE), 0);
        Due.is("x", x.count(12), Integer.MAX_VALUE);
        Due.is("one less", x.seed(Integer.MAX_VALUE - 1), Integer.MAX_VALUE);
        Due.is("the least", x.seed(0), Integer.MAX_VALUE - 1);
        Due.is("x", x.count(12), 0);
        Due.is("1", x.seed(1), 0);
        Due.is("the same", x.seed(1), 1);
    }

    private static void below0() {
        Edge.refused("-1", -1, x -> x.seed(-1));
        Edge.refused("the least number there is", -1, x -> x.seed(Integer.MIN_VALUE));
        NextStall x = new NextStall();
        x.seed(7);
        x.seed(-1);
        Due.is("x", x.count(12), 7);
    }

    private static void noAct() {
        NextStall x = Due.of(Edge.ONE_A_DAY);
        x.minute();
        x.seed(5);
        Due.is("ACTS", x.count(11), 1);
        x.undo();
        Due.is("x", x.count(12), 5);
    }

    private static void itStays() {
        NextStall x = new NextStall();
        x.seed(5);
        Due.fair(x, Edge.ONE_A_DAY);
        x.rains(10, 60, 50, 0);
        x.minute();
        Due.is("x", x.count(12), 5);
    }
}
