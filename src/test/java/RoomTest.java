import java.lang.management.ManagementFactory;

/** All calls of a run live in one room: no call makes an object, and a new one of the class is small. */
public final class RoomTest {
    private static final String FAIR = "fair 3 4" + ";stall 20 2 9;stall 20 3 8".repeat(3)
            + ";grudge 0 1;grudge 1 2;grudge 2 3;grudge 3 0" + ";buyer 99 0;buyer 99 5".repeat(3);
    private static final String RULE = "buy praise*2+came*9-price+had%3 if minute<3 and [not grudge=1 or day>2]"
            + ";buy goods*3+sold/2-purse%7+buyer+stall if not [not [price>2 or price<1] and purse>=had]"
            + ";buy 5+praise+goods+sold+had+purse+price+came+buyer+stall+minute+day+grudge+1+2+3+4+5+6+7+8";

    public static void main(String[] args) {
        com.sun.management.ThreadMXBean bean = (com.sun.management.ThreadMXBean) ManagementFactory.getThreadMXBean();
        long id = Thread.currentThread().getId();
        for (int turn = 0; turn < 2; turn++) {
            NextStall x = Due.of(FAIR, RULE, RULE, RULE, RULE, RULE, RULE);
            x.force(0);
            x.note(60, 0, 0);
            long before = bean.getThreadAllocatedBytes(id);
            run(x);
            long made = bean.getThreadAllocatedBytes(id) - before;
            // The first turn loads classes, the second one may count the bean's own answer.
            if (turn == 1) {
                Due.is("bytes that calls make, in steps of 4096", made / 4096, 0);
            }
        }
        long before = bean.getThreadAllocatedBytes(id);
        NextStall x = new NextStall();
        long made = bean.getThreadAllocatedBytes(id) - before;
        Due.is("bytes of a new object, in steps of 100000", x.count(0) + made / 100000, 0);
        Due.end();
    }

    private static int run(NextStall x) {
        int sum = 0;
        for (int i = 0; i < 8; i++) {
            sum += x.bestRing(40, i % 7 - 1) + x.quietRing(0) + x.rings(-1) + x.rains(10, 60, 5, 0);
            sum += x.fairPrice(i % 6, 60, 0) + x.rests(0, 1, 20, 0) + x.commission(0, 60, 0) + x.makeUp(40, 0);
            sum += x.away(40, 0) + x.swaps(40, 0) + x.pence(9999, 0) + x.ruled(0) + x.look(60, 0) + x.out(0);
            sum += x.ahead(0, 100, 0) + x.taken(100) + x.minute() + x.move(0, 1) + x.price(0, 9 + i) + x.grudge(0, 1);
            sum += x.earn(0, 3) + x.image(0) + x.back(0) + x.undo() + x.feed(1, 2, 3, 4, 5) + x.fair() + x.rule();
        }
        return sum;
    }
}
