/** Promises 28 to 33: note, ruled, look, rings, seed, rains. */
public final class NotesTest {
    private static final String FAIR = "fair 3 0;stall 5 4 6;stall 5 3 2;buyer 50 0";
    private static final String[] RULES = {"buy 1 if stall = 0", "buy stall", "buy 0"};

    public static void main(String[] args) {
        notes();
        ruled();
        behindTheFirstMinute();
        behindTheLastMinute();
        fromTheBegin();
        look();
        rings();
        noStalls();
        seeds();
        rains();
        Due.end();
    }

    private static void notes() {
        NextStall x = Due.of(FAIR);
        Due.is("n 61", x.note(61, 0, 0), -2);
        Due.is("n -2", x.note(-2, 0, 0), -2);
        Due.is("stall 2", x.note(0, 2, 0), -2);
        Due.is("stall -1", x.note(0, -1, 0), -2);
        Due.is("till -1", x.note(0, 0, -1), -2);
        Due.is("till 10000", x.note(0, 0, 10000), -2);
        Due.is("NOTES", x.count(10), 0);
        for (int i = 1; i <= 10; i++) {
            Due.is("note", x.note(i == 1 ? 60 : 0, 1, i == 2 ? 9999 : 0), i);
        }
        Due.is("an eleventh", x.note(0, 0, 0), -2);
        Due.is("NOTES", x.count(10), 10);
        Due.is("none then", x.note(-1, 99, -5), 0);
        Due.is("NOTES", x.count(10), 0);
        Due.is("no ACT", x.count(11), 0);
    }

    /** MINUTES have numbers from 0 on: behind the 0-th MINUTE 0 has passed. */
    private static void ruled() {
        NextStall x = Due.of(FAIR, RULES);
        Due.is("without NOTES", x.ruled(0), 4);
        Due.is("the first", x.ruled(1), -1);
        x.note(0, 0, 3);
        Due.is("none and 1", x.ruled(0), 2);
        Due.is("the first", x.ruled(1), -1);
        x.note(-1, 0, 0);
        x.note(1, 1, 8);
        Due.is("0 alone", x.ruled(0), 1);
        Due.is("the first", x.ruled(1), 0);
        x.note(0, 1, 4);
        Due.is("0 alone", x.ruled(0), 1);
        x.note(2, 1, 0);
        Due.is("at DUSK", x.ruled(0), 1);
        x.note(3, 1, 4);
        Due.is("the day behind", x.ruled(0), 1);
        x.note(0, 0, 3);
        Due.is("none such", x.ruled(0), 0);
        Due.is("none such", x.ruled(1), -2);
        x.note(-1, 0, 0);
        x.note(0, 0, 0);
        x.note(0, 1, 0);
        Due.is("2 alone", x.ruled(1), 2);
        Due.is("what 2", x.ruled(2), -3);
        Due.is("what -1", x.ruled(-1), -3);
    }

    private static void behindTheFirstMinute() {
        NextStall x = Due.of("fair 5 0;stall 5 3 2;buyer 50 0");
        x.note(0, 0, 0);
        Due.is("0 is not what the TILL has", x.ruled(0), 0);
        Due.is("none such", x.ruled(1), -2);
        ring(x, 0);
        Due.is("no RULE is so", x.look(0, 1), -2);
        x.note(-1, 0, 0);
        x.note(0, 0, 3);
        Due.is("3 is", x.ruled(0), 1);
        ring(x, 1, 0);
        Due.is("look", x.look(0, 1), 1);
        Due.rule(x, "buy 0");
        Due.is("with a NOTE none alone is so", x.look(0, 1), 1);
        x.note(-1, 0, 0);
        Due.is("no two are alike", x.look(0, 1), 1);
        Due.is("the STALL", x.look(0, 0), 0);
        Due.is("at DUSK both are", x.look(4, 1), 2);
    }

    private static void behindTheLastMinute() {
        // By the RULE the first is bought in MINUTE 60; without one all 5 are sold and handed on by then.
        NextStall x = Due.of("fair 20 0;stall 5 3 2;buyer 50 0", "buy 1 if day = 3");
        Due.is("no two are alike", x.look(60, 1), 1);
        Due.is("both are", x.look(59, 1), 2);
        x.note(60, 0, 3);
        Due.is("the RULE", x.ruled(0), 1);
        Due.is("the RULE", x.ruled(1), 0);
        Due.is("not without it", x.rings(-1), 0);
        x.force(0);
        ring(x, 1, 0);
        x.note(59, 0, 0);
        ring(x, 1, 0);
        x.note(60, 0, 0);
        ring(x, 0);
    }

    private static void fromTheBegin() {
        NextStall x = Due.of(FAIR, RULES);
        x.force(2);
        x.note(1, 1, 8);
        x.minute();
        x.move(0, 1);
        x.price(0, 40);
        x.grudge(0, 1);
        x.earn(0, 50);
        Due.is("as the text told it", x.ruled(1), 0);
        Due.is("as the text told it", x.ruled(0), 1);
        Due.is("as the text told it", x.look(0, 1), 1);
        x.force(0);
        Due.is("as the text told it", x.rings(-1), 1);
    }

    private static void look() {
        NextStall x = Due.of(FAIR, RULES);
        // TILLS behind MINUTE 0: 3 0 by none, 0 4 by 0, 3 0 by 1, 0 0 by 2.
        Due.is("the STALL", x.look(0, 0), 0);
        Due.is("how many", x.look(0, 1), 2);
        Due.is("MINUTE 1", x.look(1, 1), 2);
        Due.is("at DUSK the least", x.look(2, 0), 0);
        Due.is("at DUSK all", x.look(2, 1), 4);
        Due.is("the day behind", x.look(3, 1), 2);
        x.note(0, 0, 0);
        // 0 and 2 are left.
        Due.is("the STALL", x.look(0, 0), 1);
        Due.is("how many", x.look(0, 1), 1);
        Due.is("the STALL", x.look(1, 0), 1);
        x.note(0, 0, 1);
        Due.is("no RULE is so", x.look(0, 0), -2);
        Due.is("no RULE is so", x.look(0, 1), -2);
        Due.is("n -1", x.look(-1, 0), -1);
        Due.is("n 61", x.look(61, 0), -1);
        Due.is("what 2", x.look(1, 2), -1);
        Due.is("what -1", x.look(1, -1), -1);
    }

    private static void ring(NextStall x, int many, int... due) {
        Due.is("rings", x.rings(-1), many);
        for (int place = 0; place < 6; place++) {
            Due.is("rings(" + place + ")", x.rings(place), place < due.length ? due[place] : -2);
        }
    }

    private static void rings() {
        NextStall x = Due.of(MinuteTest.FAIR, "buy 1");
        ring(x, 2, 0, 1, 2);
        x.note(0, 1, 16);
        ring(x, 1, 0, 1, 2);
        x.note(-1, 0, 0);
        x.note(0, 1, 10);
        ring(x, 1, 0, 2, 1);
        x.move(0, 2);
        ring(x, 1, 0, 2, 1);
        x.force(0);
        // By the RULE both buy goods of 0, sold by 2 as told, by 1 in the other ring.
        ring(x, 1, 0, 2, 1);
        x.note(0, 1, 9);
        ring(x, 0);
        x.note(-1, 0, 0);
        x.note(2, 1, 0);
        // At DUSK all TILLS are handed on, in whatever ring.
        ring(x, 2, 0, 1, 2);
        Due.is("what 6", x.rings(6), -3);
        Due.is("what -2", x.rings(-2), -3);
        NextStall six = Due.of("fair 1 0" + ";stall 1 1 1".repeat(6));
        ring(six, 120, 0, 1, 2, 3, 4, 5);
    }

    private static void noStalls() {
        NextStall x = Due.of("fair 1 0");
        Due.is("look", x.look(0, 0), -2);
        Due.is("look", x.look(0, 1), -2);
        Due.is("ruled", x.ruled(0), 1);
        Due.is("rings, the empty order", x.rings(-1), 1);
        Due.is("rings", x.rings(0), -2);
    }

    private static void seeds() {
        NextStall x = new NextStall();
        Due.is("at first", x.seed(7), 0);
        Due.is("below 0", x.seed(-1), -1);
        Due.is("least", x.seed(Integer.MIN_VALUE), -1);
        Due.is("x", x.count(12), 7);
        Due.is("most", x.seed(Integer.MAX_VALUE), 7);
        Due.is("x", x.count(12), Integer.MAX_VALUE);
    }

    private static void rain(NextStall x, int m, int n, int p, int taken, int left) {
        String call = "rains(" + m + ", " + n + ", " + p + ")";
        Due.is(call, x.rains(m, n, p, 0), taken);
        Due.is(call + " left", x.rains(m, n, p, 1), left);
    }

    private static void rains() {
        NextStall x = Due.of(MinuteTest.FAIR);
        rain(x, 1, 4, 0, 28, 7);
        rain(x, 10, 60, 0, 280, 70);
        rain(x, 10, 60, 100, 0, 120);
        // From 0 the first DRAW is 12345 / 65536.
        rain(x, 1, 1, 1, 0, 12);
        rain(x, 1, 1, 0, 16, 10);
        // From 1 the DRAWS are 16838, 5758, 10113, 17515.
        x.seed(1);
        rain(x, 1, 4, 13, 28, 7);
        rain(x, 1, 4, 14, 26, 8);
        rain(x, 1, 4, 15, 26, 8);
        rain(x, 1, 4, 16, 24, 9);
        rain(x, 1, 4, 39, 16, 10);
        Due.is("x as it was", x.count(12), 1);
        rain(x, 2, 2, 14, 40, 19);
        x.minute();
        rain(x, 1, 1, 0, 8, 9);
        int[][] wrong = {{0, 1, 0, 0}, {11, 1, 0, 0}, {1, 0, 0, 0}, {1, 61, 0, 0}, {1, 1, -1, 0}, {1, 1, 101, 0},
            {1, 1, 0, -1}, {1, 1, 0, 2}};
        for (int[] w : wrong) {
            Due.is("wrong rains", x.rains(w[0], w[1], w[2], w[3]), -1);
        }
    }
}
