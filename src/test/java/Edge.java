import java.util.ArrayList;
import java.util.List;

/** What the tests of edges need: values just beyond, texts with a fault, and twins. */
final class Edge {
    /** One who buys one piece of the only goods for 1 in each minute; each day has one minute. */
    static final String ONE_A_DAY = "fair 1 0;stall 20 1 0;buyer 99 0";
    static final String SIX_STALLS = "fair 1 0" + ";stall 1 1 0".repeat(6);

    private Edge() {
    }

    interface Maker {
        NextStall make();
    }

    interface Call {
        int on(NextStall x);
    }

    interface CallWith {
        int on(NextStall x, int number);
    }

    /** The first values beyond both ends, and the farthest ones. */
    static int[] beyond(int least, int most) {
        return new int[] {least - 1, most + 1, Integer.MIN_VALUE, Integer.MAX_VALUE};
    }

    /** Every number beyond both ends is answered so, and leaves all as it was. */
    static void refusedBeyond(String name, int least, int most, int due, CallWith call) {
        for (int number : beyond(least, most)) {
            unchanged(name + " " + number, due, Edge::rich, x -> call.on(x, number));
        }
    }

    static void refused(String name, int due, Call call) {
        unchanged(name, due, Edge::rich, call);
    }

    /** The call answers so, and one on which it was called goes on as its twin, on which it was not. */
    static void unchanged(String name, int due, Maker maker, Call call) {
        NextStall called = maker.make();
        Due.is(name, call.on(called), due);
        List<Integer> got = allOf(called);
        List<Integer> want = allOf(maker.make());
        Due.is(name + ": answers behind it", got.size(), want.size());
        for (int i = 0; i < Math.min(got.size(), want.size()); i++) {
            Due.is(name + ": answer " + i + " behind it", got.get(i), want.get(i));
        }
    }

    /** An object of which every part holds something: acts, notes, images 1 and 3, a tape with a whole rule. */
    static NextStall rich() {
        NextStall x = Due.of(MinuteTest.FAIR, "buy praise + 1", "buy 1 if stall = 1");
        x.seed(77);
        x.force(0);
        x.minute();
        x.note(0, 1, 16);
        x.image(1);
        x.note(3, 0, 0);
        x.move(0, 1);
        x.price(2, 4);
        x.grudge(2, 0);
        x.earn(1, 30);
        x.minute();
        x.image(3);
        x.minute();
        Due.tell(x, "buy 2 if came = 1   ");
        return x;
    }

    /** All that can be seen of one, by less than 400 calls; it is not as it was then. */
    private static List<Integer> allOf(NextStall x) {
        List<Integer> all = new ArrayList<>();
        addState(all, x);
        addAsked(all, x);
        int more = x.undo();
        for (int i = 0; i < 20 && more >= 0; i++) {
            all.add(more);
            addShort(all, x);
            more = x.undo();
        }
        int rule = x.rule();
        all.add(rule);
        all.add(rule >= 0 ? x.force(rule) : x.fair());
        all.add(x.taken(9));
        for (int image = 0; image < 4; image++) {
            all.add(x.back(image));
            addShort(all, x);
            addAsked(all, x);
        }
        return all;
    }

    private static void addState(List<Integer> all, NextStall x) {
        for (int what = 0; what <= 13; what++) {
            all.add(x.count(what));
        }
        for (int stall = 0; stall < x.count(2); stall++) {
            for (int what = 0; what <= 8; what++) {
                all.add(x.stall(stall, what));
            }
        }
        for (int buyer = 0; buyer < x.count(3); buyer++) {
            all.add(x.buyer(buyer, 0));
            all.add(x.buyer(buyer, 1));
            for (int stall = 0; stall < x.count(2); stall++) {
                all.add(x.had(buyer, stall));
            }
        }
    }

    private static void addShort(List<Integer> all, NextStall x) {
        for (int what = 5; what <= 12; what++) {
            all.add(x.count(what));
        }
        for (int stall = 0; stall < 3; stall++) {
            all.add(x.stall(stall, 1));
            all.add(x.stall(stall, 4));
            all.add(x.stall(stall, 7));
        }
        all.add(x.buyer(0, 0));
        all.add(x.buyer(1, 0));
    }

    private static void addAsked(List<Integer> all, NextStall x) {
        all.add(x.taken(9));
        all.add(x.rains(2, 5, 40, 0));
        all.add(x.ruled(0));
        all.add(x.ruled(1));
        all.add(x.look(1, 1));
        all.add(x.rings(-1));
    }

    static void fairTaken(String text, int stalls) {
        Due.is("fair \"" + text + "\"", Due.fair(new NextStall(), text), stalls);
    }

    /** The fault stands between the two texts. */
    static void fairFault(String ahead, String rest, int kind) {
        Due.is("fair \"" + ahead + "|" + rest + "\"", Due.fair(new NextStall(), ahead + rest),
                Due.fault(ahead.length(), kind));
    }

    static void ruleTaken(String text) {
        Due.is("rule \"" + text + "\"", Due.rule(new NextStall(), text), 0);
    }

    /** The fault stands between the two texts. */
    static void ruleFault(String ahead, String rest, int kind) {
        Due.is("rule \"" + ahead + "|" + rest + "\"", Due.rule(new NextStall(), ahead + rest),
                Due.fault(ahead.length(), kind));
    }

    /** The word with one letter after another in place of which another one stands. */
    static String[] misspelt(String word) {
        String[] all = new String[word.length()];
        for (int i = 0; i < all.length; i++) {
            all[i] = word.substring(0, i) + "q" + word.substring(i + 1);
        }
        return all;
    }

    /** One with this rule in force. */
    static NextStall ruledBy(String fair, String rule) {
        NextStall x = Due.of(fair, rule);
        x.force(0);
        return x;
    }

    /** Who stands at the places 0 to 5; nobody does at those beyond. */
    static void order(String name, NextStall x, CallWith who, int... due) {
        for (int place = 0; place < 6; place++) {
            Due.is(name + ", place " + place, who.on(x, place), place < due.length ? due[place] : -2);
        }
    }
}
