/** Promises 16 to 27: what is asked. */
public final class AskTest {
    public static void main(String[] args) {
        ahead();
        outs();
        taken();
        bestRing();
        quietRing();
        fairPrice();
        rests();
        commission();
        makeUp();
        away();
        swaps();
        pence();
        nothingChanges();
        Due.end();
    }

    private static void ahead() {
        NextStall x = Due.of(MinuteTest.FAIR);
        Due.is("now", x.ahead(2, 0, 0), 5);
        Due.is("GOODS", x.ahead(2, 1, 0), 3);
        Due.is("TILL", x.ahead(1, 2, 1), 24);
        Due.is("TILL at DUSK", x.ahead(1, 3, 1), 0);
        Due.is("WEALTH", x.ahead(2, 3, 2), 20);
        Due.is("WEALTH", x.ahead(1, 3, 2), 6);
        Due.is("TILL", x.ahead(0, 4, 1), 2);
        Due.is("WEALTH", x.ahead(1, 100, 2), 8);
        Due.is("n 101", x.ahead(1, 101, 2), -1);
        Due.is("n -1", x.ahead(1, -1, 2), -1);
        Due.is("what 3", x.ahead(1, 1, 3), -1);
        Due.is("what -1", x.ahead(1, 1, -1), -1);
        Due.is("stall 3", x.ahead(3, 1, 0), -1);
        Due.is("stall -1", x.ahead(-1, 1, 0), -1);
    }

    private static void outs() {
        NextStall x = Due.of("fair 1 0;stall 3 1 0;stall 0 1 0;stall 1 9 0;buyer 9 0", "buy 1 if day >= 198 and stall = 0",
                "buy 1 if day >= 197 and stall = 0", "buy 1 if day >= 196 and stall = 0");
        Due.is("three MINUTES", x.out(0), 3);
        Due.is("from now on", x.out(1), 0);
        Due.is("never", x.out(2), -2);
        Due.is("stall 3", x.out(3), -1);
        Due.is("stall -1", x.out(-1), -1);
        x.minute();
        Due.is("the same MINUTE", x.out(0), 3);
        Due.is("this one the first", x.out(1), 1);
        x.undo();
        x.price(0, 2);
        x.force(0);
        Due.is("too late", x.out(0), -2);
        x.force(1);
        Due.is("too late by one", x.out(0), -2);
        x.force(2);
        Due.is("the last of 200", x.out(0), 199);
    }

    private static void taken() {
        NextStall x = Due.of(MinuteTest.FAIR);
        int[] due = {0, 16, 24, 26, 28, 28};
        for (int n = 0; n < due.length; n++) {
            Due.is("taken(" + n + ")", x.taken(n), due[n]);
        }
        Due.is("taken(100)", x.taken(100), 28);
        Due.is("taken(101)", x.taken(101), -1);
        Due.is("taken(-1)", x.taken(-1), -1);
        x.minute();
        Due.is("from now on", x.taken(1), 8);
    }

    private static void ring(String call, NextStall x, int n, int... due) {
        for (int place = 0; place < 6; place++) {
            int got = n == 0 ? x.quietRing(place) : x.bestRing(n, place);
            Due.is(call + " place " + place, got, place < due.length ? due[place] : -2);
        }
    }

    private static void bestRing() {
        NextStall x = Due.of(MinuteTest.FAIR);
        Due.is("most for 1", x.bestRing(1, -1), 16);
        Due.is("most for 40", x.bestRing(40, -1), 28);
        ring("bestRing", x, 40, 0, 1, 2);
        x.move(1, 2);
        Due.is("as it stands", x.taken(40), 26);
        Due.is("most for 40", x.bestRing(40, -1), 28);
        ring("bestRing", x, 40, 0, 1, 2);
        // Only 1 has a tongue, and 3's goods are dear: 1 had best stand ahead of 3.
        NextStall y = Due.of("fair 1 0;stall 9 1 0;stall 9 1 9;stall 9 1 0;stall 9 5 0;buyer 99 0");
        Due.is("most for 2", y.bestRing(2, -1), 10);
        ring("bestRing", y, 2, 0, 1, 3, 2);
        NextStall alike = Due.of("fair 1 0;stall 9 1 0;stall 9 1 0;stall 9 1 0;buyer 9 0");
        ring("all alike", alike, 3, 0, 1, 2);
        NextStall none = Due.of("fair 1 0");
        Due.is("no STALLS", none.bestRing(1, -1), 0);
        ring("no STALLS", none, 1);
        ring("one", Due.of("fair 1 0;stall 1 1 1"), 1, 0);
        Due.is("n 0", x.bestRing(0, -1), -3);
        Due.is("n 41", x.bestRing(41, -1), -3);
        Due.is("what 6", x.bestRing(1, 6), -3);
        Due.is("what -2", x.bestRing(1, -2), -3);
    }

    private static void quietRing() {
        NextStall x = Due.of(MinuteTest.FAIR);
        Due.is("fewest", x.quietRing(-1), 0);
        ring("quietRing", x, 0, 0, 2, 1);
        x.grudge(0, 2);
        Due.is("fewest", x.quietRing(-1), 1);
        ring("quietRing", x, 0, 0, 1, 2);
        x.grudge(2, 0);
        Due.is("fewest", x.quietRing(-1), 1);
        ring("quietRing", x, 0, 0, 2, 1);
        NextStall two = Due.of("fair 1 0;stall 1 1 1;stall 1 1 1;grudge 0 1;grudge 1 0");
        Due.is("both", two.quietRing(-1), 2);
        NextStall one = Due.of("fair 1 0;stall 1 1 1");
        Due.is("alone", one.quietRing(-1), 0);
        ring("alone", one, 0, 0);
        NextStall none = Due.of("fair 1 0");
        Due.is("no STALLS", none.quietRing(-1), 0);
        ring("no STALLS", none, 0);
        Due.is("what 6", x.quietRing(6), -3);
        Due.is("what -2", x.quietRing(-2), -3);
    }

    private static void fairPrice() {
        NextStall x = Due.of("fair 1 0;stall 9 5 0;buyer 20 0");
        int[] prices = {20, 10, 10, 5, 4};
        for (int n = 1; n <= prices.length; n++) {
            Due.is("fairPrice for " + n, x.fairPrice(0, n, 0), prices[n - 1]);
            Due.is("how much for " + n, x.fairPrice(0, n, 1), 20);
        }
        Due.is("for 60", x.fairPrice(0, 60, 0), 4);
        x.minute();
        Due.is("what it has stays", x.fairPrice(0, 1, 1), 20);
        NextStall none = Due.of("fair 1 0;stall 0 5 0;buyer 20 0");
        Due.is("all alike", none.fairPrice(0, 9, 0), 1);
        Due.is("how much", none.fairPrice(0, 9, 1), 0);
        Due.is("n 0", x.fairPrice(0, 0, 0), -1);
        Due.is("n 61", x.fairPrice(0, 61, 0), -1);
        Due.is("what 2", x.fairPrice(0, 1, 2), -1);
        Due.is("what -1", x.fairPrice(0, 1, -1), -1);
        Due.is("stall 1", x.fairPrice(1, 1, 0), -1);
    }

    private static void rests() {
        NextStall rich = Due.of("fair 1 0;stall 9 5 0;stall 9 5 0;buyer 99 0;buyer 99 1");
        Due.is("both as dear as can be", rich.rests(0, 1, 3, 0), 1);
        Due.is("the first", rich.rests(0, 1, 3, 1), 10);
        Due.is("the second", rich.rests(0, 1, 3, 2), 10);
        NextStall poor = Due.of("fair 1 0;stall 9 5 0;stall 9 5 0;buyer 5 0;buyer 7 1");
        Due.is("one each", poor.rests(0, 1, 1, 0), 1);
        Due.is("the first", poor.rests(0, 1, 1, 1), 4);
        Due.is("the second", poor.rests(0, 1, 1, 2), 6);
        Due.is("the other way round", poor.rests(1, 0, 1, 1), 6);
        NextStall none = Due.of("fair 1 0;stall 0 5 0;stall 0 5 0;buyer 5 0");
        Due.is("all alike", none.rests(0, 1, 20, 0), 25);
        Due.is("the first", none.rests(0, 1, 20, 1), 2);
        Due.is("the second", none.rests(0, 1, 20, 2), 2);
        Due.is("alike", rich.rests(1, 1, 1, 0), -1);
        Due.is("n 0", rich.rests(0, 1, 0, 0), -1);
        Due.is("n 21", rich.rests(0, 1, 21, 0), -1);
        Due.is("what 3", rich.rests(0, 1, 1, 3), -1);
        Due.is("what -1", rich.rests(0, 1, 1, -1), -1);
        Due.is("stall 2", rich.rests(0, 2, 1, 0), -1);
        Due.is("stall -1", rich.rests(-1, 1, 1, 0), -1);
        noRest();
    }

    /** A fair without a rest, found by a search with the model. */
    private static void noRest() {
        NextStall x = Due.of("fair 1 2;stall 3 3 0;stall 3 3 1;buyer 9 1;buyer 15 0");
        Due.is("no rest", x.rests(0, 1, 4, 0), 0);
        Due.is("no rest", x.rests(0, 1, 4, 1), -2);
        Due.is("no rest", x.rests(0, 1, 4, 2), -2);
        NextStall each = Due.of("fair 1 0;stall 1 2 0;stall 1 2 0;buyer 12 0;buyer 12 1",
                "buy 1 if buyer = stall and price <= 4");
        each.force(0);
        Due.is("each for itself", each.rests(0, 1, 1, 0), 1);
        Due.is("the first", each.rests(0, 1, 1, 1), 4);
        Due.is("the second", each.rests(0, 1, 1, 2), 4);
    }

    private static void commission() {
        NextStall x = Due.of("fair 1 5;stall 5 10 1;stall 5 7 0;buyer 10 0");
        Due.is("who sells", x.commission(1, 1, 0), 9);
        Due.is("how much", x.commission(1, 1, 1), 9);
        Due.is("whose they are", x.commission(0, 60, 0), 0);
        Due.is("how much", x.commission(0, 60, 1), 10);
        x.price(0, 1);
        Due.is("nothing is kept of 1", x.commission(1, 1, 0), 0);
        Due.is("how much", x.commission(1, 1, 1), 0);
        x.price(0, 3);
        // Of 3 there are 0, 0, 0, 0, 1, 1, 1, 2, 2, 2 kept.
        Due.is("of several the least", x.commission(1, 1, 0), 7);
        Due.is("how much", x.commission(1, 1, 1), 2);
        Due.is("of several the least", x.commission(0, 1, 0), 0);
        Due.is("n 0", x.commission(0, 0, 0), -1);
        Due.is("n 61", x.commission(0, 61, 0), -1);
        Due.is("what 2", x.commission(0, 1, 2), -1);
        Due.is("what -1", x.commission(0, 1, -1), -1);
        Due.is("stall 2", x.commission(2, 1, 0), -1);
    }

    private static void makeUp() {
        NextStall x = Due.of(MinuteTest.FAIR);
        Due.is("none is best", x.makeUp(40, 0), 28);
        Due.is("who", x.makeUp(40, 1), -2);
        Due.is("whom", x.makeUp(40, 2), -2);
        NextStall y = Due.of("fair 1 0;stall 9 1 8;stall 9 3 4;grudge 1 0;grudge 0 1;buyer 30 0");
        // Goods of 0: 4 / 2 + 3; of 1: 8 / 2, or 8 without a grudge.
        Due.is("more", y.makeUp(2, 0), 6);
        Due.is("who", y.makeUp(2, 1), 0);
        Due.is("whom", y.makeUp(2, 2), 1);
        Due.is("now", y.taken(2), 2);
        NextStall alike = Due.of("fair 1 0;stall 9 1 8;stall 9 3 4;grudge 1 0;buyer 30 1");
        Due.is("of several none", alike.makeUp(2, 1), -2);
        Due.is("n 0", y.makeUp(0, 0), -1);
        Due.is("n 41", y.makeUp(41, 0), -1);
        Due.is("what 3", y.makeUp(1, 3), -1);
        Due.is("what -1", y.makeUp(1, -1), -1);
        Due.is("no STALLS", Due.of("fair 1 0").makeUp(1, 0), 0);
    }

    private static void away() {
        NextStall x = Due.of("fair 1 0;stall 1 1 0;stall 1 5 0;stall 1 9 0;buyer 1 0;buyer 10 0",
                "buy 100 if stall = 0;buy 50 if stall = 1 and purse > 9;buy 20 if stall = 2");
        x.force(0);
        Due.is("taken", x.taken(2), 6);
        Due.is("who", x.away(2, 0), 0);
        Due.is("how much", x.away(2, 1), 10);
        Due.is("nobody for 1", x.away(1, 0), -1);
        Due.is("how much", x.away(1, 1), 6);
        NextStall idle = Due.of("fair 1 0;stall 1 1 0;buyer 0 0;buyer 5 0");
        Due.is("of several nobody", idle.away(1, 0), -1);
        Due.is("n 0", x.away(0, 0), -2);
        Due.is("n 41", x.away(41, 0), -2);
        Due.is("what 2", x.away(1, 2), -2);
        Due.is("what -1", x.away(1, -1), -2);
        Due.is("no BUYERS", Due.of("fair 1 0").away(1, 1), 0);
    }

    private static void swaps() {
        NextStall x = Due.of("fair 1 0;stall 1 3 2;stall 4 2 9;stall 4 1 5;buyer 50 0");
        Due.is("one", x.swaps(2, 0), 1);
        Due.is("first", x.swaps(2, 1), 0);
        Due.is("second", x.swaps(2, 2), 1);
        Due.is("none for 1", x.swaps(1, 0), 0);
        Due.is("none", x.swaps(1, 1), -2);
        Due.is("none", x.swaps(1, 2), -2);
        // The same with 0 and 1 by each other's names.
        NextStall y = Due.of("fair 1 0;stall 4 2 9;stall 1 3 2;stall 4 1 5;buyer 50 1");
        y.move(0, 1);
        Due.is("one", y.swaps(2, 0), 1);
        Due.is("first", y.swaps(2, 1), 0);
        Due.is("none for 1", y.swaps(1, 0), 0);
        Due.is("n 0", x.swaps(0, 0), -1);
        Due.is("n 41", x.swaps(41, 0), -1);
        Due.is("what 3", x.swaps(1, 3), -1);
        Due.is("what -1", x.swaps(1, -1), -1);
        Due.is("no STALLS", Due.of("fair 1 0").swaps(1, 0), 0);
    }

    private static void pence() {
        NextStall x = Due.of(MinuteTest.FAIR);
        Due.is("nobody has any", x.pence(100, 2), 0);
        x.minute();
        x.minute();
        x.minute();
        // WEALTH is 0, 6 and 20.
        int[][] due = {{0, 0, 0, 0}, {1, 0, 0, 1}, {2, 0, 0, 2}, {3, 0, 1, 2}, {10, 0, 2, 8}, {13, 0, 3, 10}, {9999, 0, 2307, 7692}};
        for (int[] row : due) {
            for (int stall = 0; stall < 3; stall++) {
                Due.is("pence(" + row[0] + ", " + stall + ")", x.pence(row[0], stall), row[1 + stall]);
            }
        }
        NextStall alike = Due.of("fair 1 0;stall 1 2 0;stall 1 2 0;stall 1 2 0;buyer 9 0;buyer 9 1;buyer 9 2");
        alike.minute();
        int[] five = {2, 2, 1};
        for (int stall = 0; stall < 3; stall++) {
            Due.is("pence(5, " + stall + ")", alike.pence(5, stall), five[stall]);
        }
        Due.is("much -1", x.pence(-1, 0), -1);
        Due.is("much 10000", x.pence(10000, 0), -1);
        Due.is("stall 3", x.pence(1, 3), -1);
    }

    private static void nothingChanges() {
        NextStall x = Due.of(MinuteTest.FAIR);
        x.minute();
        x.ahead(0, 100, 0);
        x.out(0);
        x.taken(100);
        x.bestRing(40, 3);
        x.quietRing(3);
        x.fairPrice(0, 60, 0);
        x.rests(0, 1, 20, 0);
        x.commission(0, 60, 0);
        x.makeUp(40, 0);
        x.away(40, 0);
        x.swaps(40, 0);
        x.rains(10, 60, 50, 0);
        x.ruled(0);
        x.look(60, 0);
        x.rings(-1);
        Due.is("MINUTE", x.count(6), 1);
        Due.is("GOODS", x.count(7), 10);
        Due.is("TILLS", x.count(9), 16);
        Due.is("ACTS", x.count(11), 1);
        Due.is("PRICE", x.stall(0, 1), 5);
        Due.is("where", x.stall(1, 4), 1);
        Due.is("KEEPS", x.count(1), 2);
        Due.is("grudges", x.stall(0, 7), 2);
        Due.is("MINUTE 1", x.minute(), 8);
    }
}
