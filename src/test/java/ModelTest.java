import java.nio.charset.StandardCharsets;
import java.util.Random;

/** Runs of drawn calls: the class answers as the plainer model does. */
public final class ModelTest {
    private static final String[] WORDS = {"buyer", "stall", "purse", "price", "praise", "came", "goods", "sold",
        "had", "grudge", "minute", "day"};
    private static final String[] STRAY = {"fair", "stall", "buy", "if", "not", "[", "]", ";", "and", "or", "<=", "=",
        ">", "+", "*", "7", "123456", "x", " ", "buyer", "grudge", "came"};

    private final Random random;
    private final NextStall stall = new NextStall();
    private final Model model = new Model();
    private final StringBuilder calls = new StringBuilder();

    private ModelTest(long seed) {
        random = new Random(seed);
    }

    public static void main(String[] args) {
        int runs = args.length > 0 ? Integer.parseInt(args[0]) : 1500;
        for (int seed = 0; seed < runs; seed++) {
            new ModelTest(seed).run(seed);
        }
        Due.end();
    }

    private void run(int seed) {
        if (random.nextInt(4) != 0) {
            tell(fairText());
            ask(3);
        }
        for (int i = random.nextInt(4); i > 0; i--) {
            tell(ruleText());
            ask(4);
        }
        for (int i = 0; i < 90; i++) {
            ask(random.nextInt(50));
        }
        if (seed % 500 == 0) {
            System.out.println("drawn run " + seed + " ended");
        }
    }

    private int below(int n) {
        return random.nextInt(n);
    }

    /** Mostly a number that there is, now and then one just beside. */
    private int number(int least, int most) {
        int draw = below(24);
        return draw == 0 ? least - 1 : draw == 1 ? most + 1 : least + below(most - least + 1);
    }

    private void due(String call, int got, int want) {
        calls.append(call).append(" = ").append(got).append('\n');
        if (got != want) {
            System.out.println(calls);
        }
        Due.is(call, got, want);
        if (got != want) {
            Due.end();
        }
    }

    private void tell(String text) {
        byte[] bytes = text.getBytes(StandardCharsets.ISO_8859_1);
        calls.append('"').append(text).append("\"\n");
        due("end(0)", stall.end(0), model.end(0));
        for (int i = 0; i < bytes.length; i += 20) {
            int a = Due.word(bytes, i);
            int b = Due.word(bytes, i + 4);
            int c = Due.word(bytes, i + 8);
            int d = Due.word(bytes, i + 12);
            int e = Due.word(bytes, i + 16);
            due("feed", stall.feed(a, b, c, d, e), model.feed(a, b, c, d, e));
        }
        due("end(" + bytes.length + ")", stall.end(bytes.length), model.end(bytes.length));
    }

    private String fairText() {
        StringBuilder text = new StringBuilder("fair " + (1 + below(6)) + " " + below(10));
        int stalls = below(8) == 0 ? below(8) : 2 + below(4);
        int buyers = below(8) == 0 ? below(8) : 1 + below(5);
        for (int i = 0; i < stalls; i++) {
            text.append(";stall ").append(below(8)).append(' ').append(1 + below(9)).append(' ').append(below(12));
        }
        for (int i = below(6); i > 0 && stalls > 1; i--) {
            int one = below(stalls);
            text.append(";grudge ").append(one).append(' ').append((one + 1 + below(stalls - 1)) % stalls);
        }
        for (int i = 0; i < buyers && stalls > 0; i++) {
            text.append(";buyer ").append(below(60)).append(' ').append(below(stalls));
        }
        return spoiled(text);
    }

    private String ruleText() {
        StringBuilder text = new StringBuilder();
        for (int i = below(3); i >= 0; i--) {
            text.append("buy ");
            sum(text);
            if (below(3) != 0) {
                text.append(" if ");
                test(text, 0);
            }
            text.append(i > 0 ? ";" : "");
        }
        return spoiled(text);
    }

    private void sum(StringBuilder text) {
        for (int i = below(3); i >= 0; i--) {
            text.append(below(3) == 0 ? "" + below(20) : WORDS[below(12)]);
            text.append(i > 0 ? "+-*/%++*".charAt(below(8)) : ' ');
        }
    }

    private void test(StringBuilder text, int depth) {
        for (int i = below(3); i >= 0; i--) {
            while (below(4) == 0) {
                text.append("not ");
            }
            if (below(4) == 0 && depth < 12) {
                text.append('[');
                test(text, depth + 1);
                text.append(']');
            } else {
                sum(text);
                text.append(new String[] {"<", "<=", "=", ">=", ">"}[below(5)]);
                sum(text);
            }
            text.append(i == 0 ? "" : below(2) == 0 ? " and " : " or ");
        }
    }

    private String spoiled(StringBuilder text) {
        if (below(4) == 0) {
            int at = below(text.length() + 1);
            int draw = below(4);
            if (draw == 0) {
                text.setLength(at);
            } else if (draw == 1 && at < text.length()) {
                text.deleteCharAt(at);
            } else if (draw == 2 && at < text.length()) {
                text.setCharAt(at, (char) below(256));
            } else {
                text.insert(at, STRAY[below(STRAY.length)]);
            }
        }
        text.setLength(Math.min(400, text.length()));
        return text.toString();
    }

    private void ask(int draw) {
        int a = number(0, 5);
        int b = number(0, 5);
        if (a == b && below(8) != 0) {
            b = (b + 1) % 3;
        }
        switch (draw) {
            case 0 -> tell(fairText());
            case 1 -> tell(ruleText());
            case 2 -> due("feed", stall.feed(a, b, 7, -1, 3), model.feed(a, b, 7, -1, 3));
            case 3 -> due("fair()", stall.fair(), model.fair());
            case 4, 5 -> due("rule()", stall.rule(), model.rule());
            case 6, 7 -> due("force(" + (a - 1) + ")", stall.force(a - 1), model.force(a - 1));
            case 8, 9, 10, 11, 12, 13, 14, 15, 16 -> due("minute()", stall.minute(), model.minute());
            case 17 -> due("move(" + a + ", " + b + ")", stall.move(a, b), model.move(a, b));
            case 18, 19 -> {
                int price = below(3) == 0 ? number(1, 40) : 1 + below(9);
                due("price(" + a + ", " + price + ")", stall.price(a, price), model.price(a, price));
            }
            case 20, 21 -> due("grudge(" + a + ", " + b + ")", stall.grudge(a, b), model.grudge(a, b));
            case 22 -> {
                int much = number(1, 99);
                due("earn(" + a + ", " + much + ")", stall.earn(a, much), model.earn(a, much));
            }
            case 23 -> due("undo()", stall.undo(), model.undo());
            case 24 -> {
                int k = number(0, 3);
                due("image(" + k + ")", stall.image(k), model.image(k));
            }
            case 25 -> {
                int k = number(0, 3);
                due("back(" + k + ")", stall.back(k), model.back(k));
            }
            case 26 -> {
                int x = random.nextInt();
                due("seed(" + x + ")", stall.seed(x), model.seed(x));
            }
            case 27, 28 -> note(a);
            default -> answer(draw, a, b);
        }
        state();
    }

    /** Half of the notes are so. */
    private void note(int a) {
        int n = number(-1, 60) % 12;
        int till = below(2) == 0 ? Math.max(0, stall.stall(a, 2)) : number(0, 9999) % 20;
        if (below(2) == 0 && stall.count(6) > 0) {
            n = stall.count(6) - 1;
        }
        due("note(" + n + ", " + a + ", " + till + ")", stall.note(n, a, till), model.note(n, a, till));
    }

    private void answer(int draw, int a, int b) {
        int w = number(0, 2);
        int place = number(-1, 5);
        int n = below(3) == 0 ? number(1, 40) : 1 + below(12);
        switch (draw) {
            case 29, 30 -> {
                int far = number(0, 100);
                due("ahead(" + a + ", " + far + ", " + w + ")", stall.ahead(a, far, w), model.ahead(a, far, w));
            }
            case 31 -> due("out(" + a + ")", stall.out(a), model.out(a));
            case 32 -> {
                int far = number(0, 100);
                due("taken(" + far + ")", stall.taken(far), model.taken(far));
            }
            case 33, 34 -> due("bestRing(" + n + ", " + place + ")", stall.bestRing(n, place), model.bestRing(n, place));
            case 35 -> due("quietRing(" + place + ")", stall.quietRing(place), model.quietRing(place));
            case 36 -> {
                int far = number(1, 60);
                due("fairPrice(" + a + ", " + far + ", " + w + ")", stall.fairPrice(a, far, w), model.fairPrice(a, far, w));
            }
            case 37, 38 -> {
                int far = number(1, 20);
                due("rests(" + a + ", " + b + ", " + far + ", " + w + ")", stall.rests(a, b, far, w),
                        model.rests(a, b, far, w));
            }
            case 39 -> {
                int far = number(1, 60);
                due("commission(" + a + ", " + far + ", " + w + ")", stall.commission(a, far, w),
                        model.commission(a, far, w));
            }
            case 40 -> due("makeUp(" + n + ", " + w + ")", stall.makeUp(n, w), model.makeUp(n, w));
            case 41 -> due("away(" + n + ", " + w + ")", stall.away(n, w), model.away(n, w));
            case 42 -> due("swaps(" + n + ", " + w + ")", stall.swaps(n, w), model.swaps(n, w));
            case 43 -> {
                int much = number(0, 9999);
                due("pence(" + much + ", " + a + ")", stall.pence(much, a), model.pence(much, a));
            }
            case 44, 45 -> due("ruled(" + w + ")", stall.ruled(w), model.ruled(w));
            case 46 -> {
                int far = number(0, 60);
                due("look(" + far + ", " + w + ")", stall.look(far, w), model.look(far, w));
            }
            case 47 -> due("rings(" + place + ")", stall.rings(place), model.rings(place));
            default -> {
                int m = number(1, 10);
                int far = number(1, 60);
                int p = number(0, 100);
                due("rains(" + m + ", " + far + ", " + p + ", " + w + ")", stall.rains(m, far, p, w),
                        model.rains(m, far, p, w));
            }
        }
    }

    private void state() {
        for (int what = -1; what <= 14; what++) {
            due("count(" + what + ")", stall.count(what), model.count(what));
        }
        for (int i = -1; i <= 6; i++) {
            int what = below(11) - 1;
            due("stall(" + i + ", " + what + ")", stall.stall(i, what), model.stall(i, what));
            int of = below(5) - 1;
            due("buyer(" + i + ", " + of + ")", stall.buyer(i, of), model.buyer(i, of));
            due("had(" + i + ", " + of + ")", stall.had(i, of), model.had(i, of));
        }
    }
}
