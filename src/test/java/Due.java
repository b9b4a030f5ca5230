import java.nio.charset.StandardCharsets;

/** What every test needs: texts that are fed, and answers that are due. */
final class Due {
    private static int wrong = 0;
    private static int asked = 0;

    private Due() {
    }

    static void is(String call, long got, long want) {
        asked++;
        if (got != want) {
            wrong++;
            System.out.println(call + " answered " + got + ", due is " + want);
        }
    }

    static void end() {
        System.out.println(asked + " answers, " + wrong + " wrong");
        if (wrong != 0) {
            System.exit(1);
        }
    }

    /** The text stands alone on the tape then. */
    static void tell(NextStall stall, String text) {
        byte[] bytes = text.getBytes(StandardCharsets.ISO_8859_1);
        stall.end(0);
        for (int i = 0; i < bytes.length; i += 20) {
            stall.feed(word(bytes, i), word(bytes, i + 4), word(bytes, i + 8), word(bytes, i + 12), word(bytes, i + 16));
        }
        stall.end(bytes.length);
    }

    static int word(byte[] bytes, int from) {
        int word = 0;
        for (int i = from; i < from + 4; i++) {
            word = word << 8 | (i < bytes.length ? bytes[i] & 255 : 0);
        }
        return word;
    }

    static int fair(NextStall stall, String text) {
        tell(stall, text);
        return stall.fair();
    }

    static int rule(NextStall stall, String text) {
        tell(stall, text);
        return stall.rule();
    }

    static NextStall of(String fair, String... rules) {
        NextStall stall = new NextStall();
        if (fair(stall, fair) < 0) {
            throw new IllegalStateException(fair);
        }
        for (String rule : rules) {
            if (rule(stall, rule) < 0) {
                throw new IllegalStateException(rule);
            }
        }
        return stall;
    }

    /** What a fair or a rule answers to a fault. */
    static int fault(int place, int kind) {
        return -2 - (1 + 8 * place + kind);
    }
}
