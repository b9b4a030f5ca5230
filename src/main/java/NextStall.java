/**
 * A fair at which each stall sells the goods of the one behind it in a ring.
 *
 * Every row that a call needs is made in a constructor and used again, so no call makes an object.
 */
public final class NextStall {
    /** None. */
    public static final int NONE = -1;

    private static final int NO_SUCH = -2;
    private static final int REFUSED = -3;

    private static final int MOST_BYTES = 400;
    private static final int BYTES_OF_A_FEED = 20;
    private static final int MOST_STALLS = 6;
    private static final int MOST_BUYERS = 6;
    private static final int MOST_RULES = 6;
    private static final int MOST_NOTES = 10;
    private static final int MOST_IMAGES = 4;
    private static final int MOST_ACTS = 20;
    private static final int MOST_PRICE = 40;
    private static final int MOST_KEEPS = 9;
    private static final int MOST_EARNED = 99;
    private static final int MOST_IN_PURSE = 999;
    private static final int MOST_PENCE = 9999;
    private static final int LAST_MINUTE = 999;
    private static final int LAST_NOTED = 60;
    private static final int MINUTES_OF_OUT = 200;
    /** The orders of six stalls of which one stands first. */
    private static final int MOST_ORDERS = 120;
    private static final int PRICES_OF_RESTS = 5;

    private final Tape tape = new Tape();
    private final Cursor cursor = new Cursor();
    private final Rule[] rules = new Rule[MOST_RULES];
    private int ruleCount = 0;
    private final World world = new World();
    private final Past past = new Past();
    private final World[] images = new World[MOST_IMAGES];
    private final boolean[] made = new boolean[MOST_IMAGES];
    private final Trials trials = new Trials();

    public NextStall() {
        for (int i = 0; i < MOST_RULES; i++) {
            rules[i] = new Rule();
        }
        for (int i = 0; i < MOST_IMAGES; i++) {
            images[i] = new World();
        }
    }

    public int feed(int a, int b, int c, int d, int e) {
        if (tape.size + BYTES_OF_A_FEED > MOST_BYTES) {
            return NONE;
        }
        tape.add(a);
        tape.add(b);
        tape.add(c);
        tape.add(d);
        tape.add(e);
        return tape.size;
    }

    public int end(int n) {
        if (!within(n, 0, tape.size)) {
            return NONE;
        }
        tape.size = n;
        return n;
    }

    public int fair() {
        cursor.take(tape);
        Fair read = trials.fair;
        FairReader.read(cursor, read);
        if (!cursor.isFine()) {
            return NO_SUCH - cursor.fault;
        }
        world.begin(read);
        past.forget();
        return read.stalls;
    }

    public int rule() {
        if (ruleCount >= MOST_RULES) {
            return NONE;
        }
        cursor.take(tape);
        RuleReader.read(cursor, rules[ruleCount]);
        if (!cursor.isFine()) {
            return NO_SUCH - cursor.fault;
        }
        ruleCount++;
        return ruleCount - 1;
    }

    public int force(int rule) {
        if (!within(rule, NONE, ruleCount - 1)) {
            return NO_SUCH;
        }
        int before = world.inForce;
        world.inForce = rule;
        return before;
    }

    public int stall(int stall, int what) {
        if (!isStall(stall)) {
            return NONE;
        }
        Fair now = world.now;
        switch (what) {
            case 0:
                return now.goods[stall];
            case 1:
                return now.price[stall];
            case 2:
                return now.till[stall];
            case 3:
                return now.wealth[stall];
            case 4:
                return now.placeOf(stall);
            case 5:
                return now.seller[stall];
            case 6:
                return now.praise[stall];
            case 7:
                return now.grudges[stall];
            case 8:
                return now.sold[stall];
            default:
                return NONE;
        }
    }

    public int buyer(int buyer, int what) {
        if (!isBuyer(buyer)) {
            return NONE;
        }
        switch (what) {
            case 0:
                return world.now.purse[buyer];
            case 1:
                return world.now.came[buyer];
            case 2:
                return world.now.allThatCan(buyer);
            default:
                return NONE;
        }
    }

    public int had(int buyer, int stall) {
        if (!isBuyer(buyer) || !isStall(stall)) {
            return NONE;
        }
        return world.now.had[buyer * MOST_STALLS + stall];
    }

    public int minute() {
        if (!world.open || world.now.minute >= LAST_MINUTE) {
            return NONE;
        }
        past.keep(world.now);
        return world.now.go(ruleInForce(), 1, NONE);
    }

    public int move(int one, int other) {
        if (!areTwoStalls(one, other)) {
            return NONE;
        }
        past.keep(world.now);
        world.now.swapPlaces(one, other);
        return world.now.placeOf(one);
    }

    public int price(int stall, int price) {
        if (!isStall(stall) || !within(price, 1, MOST_PRICE) || price == world.now.price[stall]) {
            return NONE;
        }
        past.keep(world.now);
        int before = world.now.price[stall];
        world.now.price[stall] = price;
        return before;
    }

    public int grudge(int one, int other) {
        if (!areTwoStalls(one, other)) {
            return NONE;
        }
        past.keep(world.now);
        world.now.flipGrudge(one, other);
        return world.now.bears(one, other) ? 1 : 0;
    }

    public int earn(int buyer, int much) {
        if (!isBuyer(buyer) || !within(much, 1, MOST_EARNED)) {
            return NONE;
        }
        past.keep(world.now);
        int[] purse = world.now.purse;
        purse[buyer] = Math.min(MOST_IN_PURSE, purse[buyer] + much);
        return purse[buyer];
    }

    public int undo() {
        if (past.size <= 0) {
            return NONE;
        }
        past.takeBack(world.now);
        return past.size;
    }

    public int ahead(int stall, int n, int what) {
        if (!isStall(stall) || !within(n, 0, 100) || !within(what, 0, 2)) {
            return NONE;
        }
        Fair then = trials.from(world.now);
        then.go(ruleInForce(), n, NONE);
        if (what == 0) {
            return then.goods[stall];
        }
        return what == 1 ? then.till[stall] : then.wealth[stall];
    }

    public int out(int stall) {
        if (!isStall(stall)) {
            return NONE;
        }
        Fair then = trials.from(world.now);
        for (int i = 0; i < MINUTES_OF_OUT; i++) {
            if (then.goods[stall] == 0) {
                return then.minute;
            }
            then.go(ruleInForce(), 1, NONE);
        }
        return NO_SUCH;
    }

    public int taken(int n) {
        if (!world.open || !within(n, 0, 100)) {
            return NONE;
        }
        return trials.from(world.now).go(ruleInForce(), n, NONE);
    }

    public int bestRing(int n, int what) {
        if (!world.open || !within(n, 1, 40) || !isPlaceOrNone(what)) {
            return REFUSED;
        }
        int most = trials.findBestRing(world.now, ruleInForce(), n);
        return what == NONE ? most : trials.whoStandsAt(what);
    }

    public int quietRing(int what) {
        if (!world.open || !isPlaceOrNone(what)) {
            return REFUSED;
        }
        int fewest = trials.findQuietRing(world.now);
        return what == NONE ? fewest : trials.whoStandsAt(what);
    }

    public int fairPrice(int stall, int n, int what) {
        if (!isStall(stall) || !within(n, 1, 60) || !within(what, 0, 1)) {
            return NONE;
        }
        trials.findFairPrice(world.now, ruleInForce(), stall, n);
        return trials.found[what];
    }

    public int rests(int one, int other, int n, int what) {
        if (!areTwoStalls(one, other) || !within(n, 1, 20) || !within(what, 0, 2)) {
            return NONE;
        }
        trials.findRests(world.now, ruleInForce(), one, other, n);
        return trials.found[what];
    }

    public int commission(int stall, int n, int what) {
        if (!isStall(stall) || !within(n, 1, 60) || !within(what, 0, 1)) {
            return NONE;
        }
        trials.findCommission(world.now, ruleInForce(), stall, n);
        return trials.found[what];
    }

    public int makeUp(int n, int what) {
        if (!world.open || !within(n, 1, 40) || !within(what, 0, 2)) {
            return NONE;
        }
        trials.findMakeUp(world.now, ruleInForce(), n);
        return trials.found[what];
    }

    public int away(int n, int what) {
        if (!world.open || !within(n, 1, 40) || !within(what, 0, 1)) {
            return NO_SUCH;
        }
        trials.findAway(world.now, ruleInForce(), n);
        return trials.found[what];
    }

    public int swaps(int n, int what) {
        if (!world.open || !within(n, 1, 40) || !within(what, 0, 2)) {
            return NONE;
        }
        trials.findSwaps(world.now, ruleInForce(), n);
        return trials.found[what];
    }

    public int pence(int much, int stall) {
        if (!isStall(stall) || !within(much, 0, MOST_PENCE)) {
            return NONE;
        }
        return world.now.partOf(much, stall);
    }

    public int note(int n, int stall, int till) {
        if (n == NONE) {
            world.notes.size = 0;
            return 0;
        }
        if (!within(n, 0, LAST_NOTED) || !isStall(stall) || !within(till, 0, MOST_PENCE)
                || world.notes.size >= MOST_NOTES) {
            return NO_SUCH;
        }
        world.notes.add(n, stall, till);
        return world.notes.size;
    }

    public int ruled(int what) {
        if (!world.open || !within(what, 0, 1)) {
            return REFUSED;
        }
        trials.findRuled(world, rules, ruleCount);
        return trials.found[what];
    }

    public int look(int n, int what) {
        if (!world.open || !within(n, 0, LAST_NOTED) || !within(what, 0, 1)) {
            return NONE;
        }
        trials.findLook(world, rules, ruleCount, n);
        return trials.found[what];
    }

    public int rings(int what) {
        if (!world.open || !isPlaceOrNone(what)) {
            return REFUSED;
        }
        int many = trials.findRings(world, ruleInForce());
        return what == NONE ? many : trials.whoStandsAt(what);
    }

    public int seed(int x) {
        if (x < 0) {
            return NONE;
        }
        int before = world.x;
        world.x = x;
        return before;
    }

    public int rains(int m, int n, int p, int what) {
        boolean asked = within(m, 1, 10) && within(n, 1, 60) && within(p, 0, 100) && within(what, 0, 1);
        if (!world.open || !asked) {
            return NONE;
        }
        trials.findRains(world, ruleInForce(), m, n, p);
        return trials.found[what];
    }

    public int count(int what) {
        Fair now = world.now;
        switch (what) {
            case 0:
                return now.lasts;
            case 1:
                return now.keeps;
            case 2:
                return now.stalls;
            case 3:
                return now.buyers;
            case 4:
                return ruleCount;
            case 5:
                return world.inForce;
            case 6:
                return now.minute;
            case 7:
                return now.sumOf(now.goods);
            case 8:
                return now.sumOf(now.wealth);
            case 9:
                return now.sumOf(now.till);
            case 10:
                return world.notes.size;
            case 11:
                return past.size;
            case 12:
                return world.x;
            case 13:
                return tape.size;
            default:
                return NONE;
        }
    }

    public int image(int k) {
        if (!within(k, 0, MOST_IMAGES - 1)) {
            return NONE;
        }
        images[k].copyFrom(world);
        made[k] = true;
        return world.now.minute;
    }

    public int back(int k) {
        if (!within(k, 0, MOST_IMAGES - 1) || !made[k]) {
            return NONE;
        }
        world.copyFrom(images[k]);
        past.forget();
        return world.now.minute;
    }

    private static boolean within(int number, int least, int most) {
        return number >= least && number <= most;
    }

    private boolean isStall(int stall) {
        return within(stall, 0, world.now.stalls - 1);
    }

    private boolean areTwoStalls(int one, int other) {
        return isStall(one) && isStall(other) && one != other;
    }

    private boolean isBuyer(int buyer) {
        return within(buyer, 0, world.now.buyers - 1);
    }

    private static boolean isPlaceOrNone(int what) {
        return within(what, NONE, MOST_STALLS - 1);
    }

    private Rule ruleInForce() {
        return within(world.inForce, 0, ruleCount - 1) ? rules[world.inForce] : null;
    }

    /** The bytes that were fed and not read yet. */
    private static final class Tape {
        private final byte[] bytes = new byte[MOST_BYTES];
        private int size = 0;

        private void add(int number) {
            for (int shift = 24; shift >= 0 && size < MOST_BYTES; shift -= 8) {
                bytes[size] = (byte) (number >> shift);
                size++;
            }
        }
    }

    /** Walks along the tape sign by sign and keeps the first fault that it is told. */
    private static final class Cursor {
        /** What is seen behind the last byte. */
        private static final int END = -1;

        private static final int WRONG = 0;
        private static final int BAD_NUMBER = 1;
        private static final int TOO_DEEP = 2;
        private static final int PART_TOO_MANY = 3;
        private static final int CLAUSE_TOO_MANY = 4;

        private static final int MOST_DIGITS = 5;
        private static final int MOST_NUMBER = 99999;

        private final byte[] text = new byte[MOST_BYTES];
        private int size = 0;
        private int at = 0;
        private int fault = 0;

        /** The tape is empty then, whether its text has a fault or not. */
        private void take(Tape tape) {
            size = tape.size;
            System.arraycopy(tape.bytes, 0, text, 0, size);
            tape.size = 0;
            at = 0;
            fault = 0;
        }

        private boolean isFine() {
            return fault == 0;
        }

        /** Readers go along the text and tell the least kind of a place first, so the first told stays. */
        private void fail(int kind, int place) {
            if (fault == 0) {
                fault = 1 + 8 * place + kind;
            }
        }

        /** What stands behind the blanks; these are passed. */
        private int peek() {
            while (at < size && text[at] == ' ') {
                at++;
            }
            return at < size ? text[at] & 255 : END;
        }

        /** Passes one of these signs: which it was. */
        private int takeSign(String signs) {
            int seen = peek();
            for (int i = 0; i < signs.length(); i++) {
                if (seen == signs.charAt(i)) {
                    at++;
                    return i;
                }
            }
            return NONE;
        }

        /** Passes a word of a list whose words all end with a blank: which it was. */
        private int takeWord(String words) {
            peek();
            int word = 0;
            int alike = 0;
            int from = 0;
            for (int i = 0; i < words.length(); i++) {
                boolean isEnd = words.charAt(i) == ' ';
                if (isEnd && alike == i - from && !isLetter(at + alike)) {
                    at += alike;
                    return word;
                }
                if (isEnd) {
                    word++;
                    from = i + 1;
                    alike = 0;
                } else if (alike == i - from && at + alike < size && text[at + alike] == words.charAt(i)) {
                    alike++;
                }
            }
            return NONE;
        }

        private boolean isLetter(int place) {
            return place < size && text[place] >= 'a' && text[place] <= 'z';
        }

        private boolean isDigit(int place) {
            return place < size && text[place] >= '0' && text[place] <= '9';
        }

        private int takeNumber(int least, int most) {
            peek();
            int place = at;
            int number = 0;
            while (at < size && isDigit(at)) {
                if (at - place < MOST_DIGITS) {
                    number = number * 10 + text[at] - '0';
                }
                at++;
            }
            if (at == place) {
                fail(WRONG, place);
            } else if (at - place > MOST_DIGITS || !within(number, least, most)) {
                fail(BAD_NUMBER, place);
            }
            return number;
        }

        /** Whether another clause follows; what can stand behind a clause is a ; or the end. */
        private boolean takeNextClause() {
            if (takeSign(";") != NONE) {
                return true;
            }
            if (peek() != END) {
                fail(WRONG, at);
            }
            return false;
        }
    }

    /** Reads a text as a fair at its begin. */
    private static final class FairReader {
        private static final String CLAUSES = "fair stall grudge buyer ";
        private static final int FAIR = 0;
        private static final int STALL = 1;
        private static final int GRUDGE = 2;
        private static final int MOST_CLAUSES = 40;

        private static void read(Cursor cursor, Fair fair) {
            fair.clear();
            boolean more = true;
            for (int clause = 0; clause <= MOST_CLAUSES && more; clause++) {
                readClause(cursor, fair, clause);
                more = cursor.isFine() && cursor.takeNextClause();
            }
            fair.arrange();
        }

        private static void readClause(Cursor cursor, Fair fair, int clause) {
            cursor.peek();
            int place = cursor.at;
            int kind = cursor.takeWord(CLAUSES);
            if (kind == NONE) {
                cursor.fail(Cursor.WRONG, place);
            } else if (!mayStand(fair, kind, clause)) {
                cursor.fail(Cursor.CLAUSE_TOO_MANY, place);
            } else if (kind == FAIR) {
                fair.lasts = cursor.takeNumber(1, 20);
                fair.keeps = cursor.takeNumber(0, MOST_KEEPS);
            } else if (kind == STALL) {
                readStall(cursor, fair);
            } else if (kind == GRUDGE) {
                readGrudge(cursor, fair);
            } else {
                readBuyer(cursor, fair);
            }
        }

        private static boolean mayStand(Fair fair, int kind, int clause) {
            if (clause >= MOST_CLAUSES || (clause == 0) != (kind == FAIR)) {
                return false;
            }
            if (kind == STALL) {
                return fair.stalls < MOST_STALLS;
            }
            return kind == FAIR || kind == GRUDGE || fair.buyers < MOST_BUYERS;
        }

        private static void readStall(Cursor cursor, Fair fair) {
            int goods = cursor.takeNumber(0, 20);
            int price = cursor.takeNumber(1, MOST_PRICE);
            int tongue = cursor.takeNumber(0, 20);
            if (cursor.isFine()) {
                fair.addStall(goods, price, tongue);
            }
        }

        private static void readGrudge(Cursor cursor, Fair fair) {
            int one = cursor.takeNumber(0, fair.stalls - 1);
            cursor.peek();
            int place = cursor.at;
            int other = cursor.takeNumber(0, fair.stalls - 1);
            if (other == one) {
                cursor.fail(Cursor.BAD_NUMBER, place);
            }
            if (cursor.isFine() && !fair.bears(one, other)) {
                fair.flipGrudge(one, other);
            }
        }

        private static void readBuyer(Cursor cursor, Fair fair) {
            int purse = cursor.takeNumber(0, 99);
            int came = cursor.takeNumber(0, fair.stalls - 1);
            if (cursor.isFine()) {
                fair.addBuyer(purse, came);
            }
        }
    }

    /** Reads a text as a rule. */
    private static final class RuleReader {
        private static final int MOST_CLAUSES = 12;
        private static final int MOST_DEPTH = 10;
        private static final int MOST_PARTS = 60;

        private static void read(Cursor cursor, Rule rule) {
            rule.clear();
            boolean more = true;
            for (int clause = 0; clause <= MOST_CLAUSES && more; clause++) {
                cursor.peek();
                int place = cursor.at;
                if (cursor.takeWord("buy ") == NONE) {
                    cursor.fail(Cursor.WRONG, place);
                    return;
                }
                if (clause >= MOST_CLAUSES) {
                    cursor.fail(Cursor.CLAUSE_TOO_MANY, place);
                    return;
                }
                rule.sumFrom[clause] = rule.size;
                readSum(cursor, rule);
                rule.testFrom[clause] = rule.size;
                if (cursor.isFine() && cursor.takeWord("if ") != NONE) {
                    readTest(cursor, rule, 0);
                }
                rule.testTo[clause] = rule.size;
                rule.clauses = clause + 1;
                more = cursor.isFine() && cursor.takeNextClause();
            }
        }

        /** Each turn passes a byte or fails, so there are no more turns than bytes. */
        private static void readTest(Cursor cursor, Rule rule, int depth) {
            boolean isFirstPart = true;
            boolean isJoined = false;
            boolean more = true;
            for (int i = 0; i < MOST_BYTES && more; i++) {
                readFact(cursor, rule, depth);
                if (isJoined) {
                    rule.add(Rule.AND, 0);
                }
                isJoined = cursor.isFine() && cursor.takeWord("and ") != NONE;
                if (isJoined) {
                    continue;
                }
                if (!isFirstPart) {
                    rule.add(Rule.OR, 0);
                }
                isFirstPart = false;
                more = cursor.isFine() && cursor.takeWord("or ") != NONE;
            }
        }

        private static void readFact(Cursor cursor, Rule rule, int depth) {
            boolean isOpened = cursor.peek() == '[';
            int place = cursor.at;
            boolean isNot = cursor.takeWord("not ") != NONE;
            if ((isOpened || isNot) && depth >= MOST_DEPTH) {
                cursor.fail(Cursor.TOO_DEEP, place);
            } else if (isNot) {
                readFact(cursor, rule, depth + 1);
                rule.add(Rule.NOT, 0);
            } else if (isOpened) {
                cursor.at++;
                readTest(cursor, rule, depth + 1);
                if (cursor.isFine() && cursor.takeSign("]") == NONE) {
                    cursor.fail(Cursor.WRONG, cursor.at);
                }
            } else {
                readSum(cursor, rule);
                int holds = readSign(cursor, rule);
                if (cursor.isFine()) {
                    readSum(cursor, rule);
                    rule.add(Rule.COMPARE, holds);
                }
            }
        }

        /** When it holds, as bits: 1 if less, 2 if alike, 4 if more. */
        private static int readSign(Cursor cursor, Rule rule) {
            cursor.peek();
            int place = cursor.at;
            int sign = cursor.takeSign("<=>");
            if (sign == NONE) {
                cursor.fail(Cursor.WRONG, place);
                return 0;
            }
            countPart(cursor, rule, place);
            boolean isLonger = sign != 1 && cursor.at < cursor.size && cursor.text[cursor.at] == '=';
            if (isLonger) {
                cursor.at++;
            }
            return 1 << sign | (isLonger ? 2 : 0);
        }

        /** Each turn passes a byte or fails, so there are no more turns than bytes. */
        private static void readSum(Cursor cursor, Rule rule) {
            int adds = NONE;
            int scales = NONE;
            boolean more = true;
            for (int i = 0; i < MOST_BYTES && more; i++) {
                readValue(cursor, rule);
                if (scales != NONE) {
                    rule.add(Rule.TIMES + scales, 0);
                }
                scales = cursor.isFine() ? cursor.takeSign("*/%") : NONE;
                if (scales != NONE) {
                    continue;
                }
                if (adds != NONE) {
                    rule.add(Rule.PLUS + adds, 0);
                }
                adds = cursor.isFine() ? cursor.takeSign("+-") : NONE;
                more = adds != NONE;
            }
        }

        private static void readValue(Cursor cursor, Rule rule) {
            cursor.peek();
            int place = cursor.at;
            boolean isNumber = cursor.isDigit(place);
            int number = isNumber ? cursor.takeNumber(0, Cursor.MOST_NUMBER) : cursor.takeWord(Rule.WORDS);
            if (number == NONE) {
                cursor.fail(Cursor.WRONG, place);
            }
            countPart(cursor, rule, place);
            if (cursor.isFine()) {
                rule.add(isNumber ? Rule.NUMBER : Rule.WORD, number);
            }
        }

        private static void countPart(Cursor cursor, Rule rule, int place) {
            rule.parts++;
            if (rule.parts > MOST_PARTS) {
                cursor.fail(Cursor.PART_TOO_MANY, place);
            }
        }
    }

    /** What goods are worth to a buyer: clauses, each as steps on a stack. */
    private static final class Rule {
        private static final String WORDS =
                "buyer stall purse price praise came goods sold had grudge minute day ";
        private static final int WORD_COUNT = 12;
        private static final int MINUTE_WORD = 10;

        private static final int NUMBER = 0;
        private static final int WORD = 1;
        private static final int NOT = 2;
        private static final int AND = 3;
        private static final int OR = 4;
        private static final int PLUS = 5;
        private static final int MINUS = 6;
        private static final int TIMES = 7;
        private static final int OVER = 8;
        private static final int REST = 9;
        private static final int COMPARE = 10;

        /** A step has its kind in the lower bits and its number above them. */
        private static final int KIND_BITS = 4;

        /** Each step is told by at least one byte of the text, so there are no more than bytes. */
        private final int[] steps = new int[MOST_BYTES];
        private int size = 0;
        private final int[] sumFrom = new int[RuleReader.MOST_CLAUSES];
        private final int[] testFrom = new int[RuleReader.MOST_CLAUSES];
        private final int[] testTo = new int[RuleReader.MOST_CLAUSES];
        private int clauses = 0;
        /** Values of sums, and facts made of a sign. */
        private int parts = 0;
        /** Whether it may say otherwise of the same goods at another time. */
        private boolean readsTime = false;
        private final long[] words = new long[WORD_COUNT];
        /** Each value is put on it once at most. */
        private final long[] stack = new long[RuleReader.MOST_PARTS + 1];

        private void clear() {
            size = 0;
            clauses = 0;
            parts = 0;
            readsTime = false;
        }

        private void add(int kind, int number) {
            if (size < MOST_BYTES) {
                steps[size] = number << KIND_BITS | kind;
                size++;
            }
            readsTime |= kind == WORD && number >= MINUTE_WORD;
        }

        private long worth(Fair fair, int buyer, int stall) {
            tellWords(fair, buyer, stall);
            for (int i = 0; i < clauses; i++) {
                boolean holds = testFrom[i] == testTo[i] || work(testFrom[i], testTo[i]) != 0;
                if (holds) {
                    return work(sumFrom[i], testFrom[i]);
                }
            }
            return 0;
        }

        private void tellWords(Fair fair, int buyer, int stall) {
            int lasts = fair.lasts > 0 ? fair.lasts : 1;
            words[0] = buyer;
            words[1] = stall;
            words[2] = fair.purse[buyer];
            words[3] = fair.price[stall];
            words[4] = fair.praise[stall];
            words[5] = fair.came[buyer] == stall ? 1 : 0;
            words[6] = fair.goods[stall];
            words[7] = fair.sold[stall];
            words[8] = fair.had[buyer * MOST_STALLS + stall];
            words[9] = fair.borne[stall];
            words[10] = fair.minute % lasts;
            words[11] = fair.minute / lasts;
        }

        /** A fact is 1 if it is so, else 0. */
        private long work(int from, int to) {
            int top = 0;
            for (int i = from; i < to && i < size; i++) {
                int kind = steps[i] & (1 << KIND_BITS) - 1;
                int number = steps[i] >> KIND_BITS;
                if (kind == NUMBER || kind == WORD) {
                    if (top >= stack.length || kind == WORD && number >= WORD_COUNT) {
                        return 0;
                    }
                    stack[top] = kind == NUMBER ? number : words[number];
                    top++;
                    continue;
                }
                if (kind != NOT) {
                    top--;
                }
                if (top < 1 || top >= stack.length) {
                    return 0;
                }
                long a = stack[top - 1];
                long b = stack[top];
                switch (kind) {
                    case NOT:
                        a = 1 - a;
                        break;
                    case AND:
                        a = a & b;
                        break;
                    case OR:
                        a = a | b;
                        break;
                    case PLUS:
                        a = a + b;
                        break;
                    case MINUS:
                        a = a - b;
                        break;
                    case TIMES:
                        a = a * b;
                        break;
                    case OVER:
                        a = b == 0 ? 0 : a / b;
                        break;
                    case REST:
                        a = b == 0 ? 0 : a % b;
                        break;
                    default:
                        a = number >> (a < b ? 0 : a == b ? 1 : 2) & 1;
                        break;
                }
                stack[top - 1] = a;
            }
            return top > 0 ? stack[top - 1] : 0;
        }
    }

    /** A fair as it is in one minute. */
    private static final class Fair {
        private static final int MORE_IF_CAME = 3;

        private int lasts = 0;
        private int keeps = 0;
        private int stalls = 0;
        private int buyers = 0;
        private int minute = 0;
        private final int[] goods = new int[MOST_STALLS];
        private final int[] price = new int[MOST_STALLS];
        private final int[] tongue = new int[MOST_STALLS];
        private final int[] till = new int[MOST_STALLS];
        private final int[] wealth = new int[MOST_STALLS];
        private final int[] sold = new int[MOST_STALLS];
        /** Who stands at each place. */
        private final int[] ring = new int[MOST_STALLS];
        /** Against whom each bears one, as bits. */
        private final int[] grudges = new int[MOST_STALLS];
        private final int[] purse = new int[MOST_BUYERS];
        private final int[] came = new int[MOST_BUYERS];
        private final int[] had = new int[MOST_BUYERS * MOST_STALLS];
        /** Of each stall's goods: who sells them, how they are praised, 1 if the seller bears a grudge. */
        private final int[] seller = new int[MOST_STALLS];
        private final int[] praise = new int[MOST_STALLS];
        private final int[] borne = new int[MOST_STALLS];

        private void clear() {
            lasts = 0;
            keeps = 0;
            stalls = 0;
            buyers = 0;
            minute = 0;
        }

        private void copyFrom(Fair other) {
            lasts = other.lasts;
            keeps = other.keeps;
            stalls = other.stalls;
            buyers = other.buyers;
            minute = other.minute;
            copyRow(other.goods, goods);
            copyRow(other.price, price);
            copyRow(other.tongue, tongue);
            copyRow(other.till, till);
            copyRow(other.wealth, wealth);
            copyRow(other.sold, sold);
            copyRow(other.ring, ring);
            copyRow(other.grudges, grudges);
            copyRow(other.purse, purse);
            copyRow(other.came, came);
            copyRow(other.had, had);
            copyRow(other.seller, seller);
            copyRow(other.praise, praise);
            copyRow(other.borne, borne);
        }

        private static void copyRow(int[] from, int[] to) {
            System.arraycopy(from, 0, to, 0, Math.min(from.length, to.length));
        }

        private void addStall(int hasGoods, int hasPrice, int hasTongue) {
            if (stalls >= MOST_STALLS) {
                return;
            }
            goods[stalls] = hasGoods;
            price[stalls] = hasPrice;
            tongue[stalls] = hasTongue;
            till[stalls] = 0;
            wealth[stalls] = 0;
            sold[stalls] = 0;
            ring[stalls] = stalls;
            grudges[stalls] = 0;
            stalls++;
        }

        private void addBuyer(int hasPurse, int cameFor) {
            if (buyers >= MOST_BUYERS) {
                return;
            }
            purse[buyers] = hasPurse;
            came[buyers] = cameFor;
            for (int i = 0; i < MOST_STALLS; i++) {
                had[buyers * MOST_STALLS + i] = 0;
            }
            buyers++;
        }

        /** What follows from the ring and the grudges is told anew whenever these change. */
        private void arrange() {
            for (int i = 0; i < stalls; i++) {
                int owner = ring[i];
                int sells = ring[i > 0 ? i - 1 : stalls - 1];
                seller[owner] = sells;
                borne[owner] = bears(sells, owner) ? 1 : 0;
                praise[owner] = borne[owner] == 1 ? tongue[sells] / 2 : tongue[sells];
            }
        }

        private void stand(int[] order) {
            copyRow(order, ring);
            arrange();
        }

        private void swapPlaces(int one, int other) {
            int placeOfOne = placeOf(one);
            int placeOfOther = placeOf(other);
            ring[placeOfOne] = other;
            ring[placeOfOther] = one;
            arrange();
        }

        private int placeOf(int stall) {
            for (int i = 0; i < stalls; i++) {
                if (ring[i] == stall) {
                    return i;
                }
            }
            return 0;
        }

        private boolean bears(int one, int other) {
            return (grudges[one] >> other & 1) == 1;
        }

        private void flipGrudge(int one, int other) {
            grudges[one] ^= 1 << other;
            arrange();
        }

        private boolean can(int buyer, int stall) {
            return goods[stall] > 0 && price[stall] <= purse[buyer];
        }

        private int allThatCan(int buyer) {
            int all = 0;
            for (int i = 0; i < stalls; i++) {
                if (can(buyer, i)) {
                    all |= 1 << i;
                }
            }
            return all;
        }

        private int sumOf(int[] row) {
            int sum = 0;
            for (int i = 0; i < stalls; i++) {
                sum += row[i];
            }
            return sum;
        }

        /** So many minutes, in which one buyer (or none) buys nothing: what is paid in them. */
        private int go(Rule rule, int minutes, int absent) {
            int paid = 0;
            boolean isOver = false;
            for (int i = 0; i < minutes; i++) {
                int more = isOver ? 0 : trade(rule, absent);
                isOver = more == 0 && staysSo(rule);
                paid += more;
                closeMinute();
            }
            return paid;
        }

        /** Whether nothing will be bought any more, if nothing was bought in this minute. */
        private boolean staysSo(Rule rule) {
            if (rule == null || !rule.readsTime) {
                return true;
            }
            int any = 0;
            for (int i = 0; i < buyers; i++) {
                any |= allThatCan(i);
            }
            return any == 0;
        }

        private int trade(Rule rule, int absent) {
            int paid = 0;
            for (int i = 0; i < buyers; i++) {
                int chosen = i == absent ? NONE : choice(rule, i);
                if (chosen == NONE) {
                    continue;
                }
                goods[chosen]--;
                sold[chosen]++;
                had[i * MOST_STALLS + chosen]++;
                purse[i] -= price[chosen];
                till[seller[chosen]] += price[chosen];
                paid += price[chosen];
            }
            return paid;
        }

        private int choice(Rule rule, int buyer) {
            int best = NONE;
            long most = 0;
            for (int i = 0; i < stalls; i++) {
                if (!can(buyer, i)) {
                    continue;
                }
                // Without a rule goods of no praise are bought, too: one more keeps them above 0.
                long worth = rule != null ? rule.worth(this, buyer, i)
                        : 1 + praise[i] + (came[buyer] == i ? MORE_IF_CAME : 0);
                if (worth > most) {
                    most = worth;
                    best = i;
                }
            }
            return best;
        }

        private void closeMinute() {
            if (lasts > 0 && minute % lasts == lasts - 1) {
                handOn();
            }
            minute++;
        }

        private void handOn() {
            for (int i = 0; i < stalls; i++) {
                int sells = seller[i];
                int kept = till[sells] * keeps / 10;
                wealth[sells] += kept;
                wealth[i] += till[sells] - kept;
                till[sells] = 0;
            }
        }

        /** Of pence that are parted by wealth. */
        private int partOf(int much, int stall) {
            long all = sumOf(wealth);
            if (all <= 0) {
                return 0;
            }
            long left = much;
            long served = 0;
            long lost = (long) much * wealth[stall] % all;
            for (int i = 0; i < stalls; i++) {
                left -= (long) much * wealth[i] / all;
                long lostHere = (long) much * wealth[i] % all;
                if (lostHere > lost || lostHere == lost && i < stall) {
                    served++;
                }
            }
            long part = (long) much * wealth[stall] / all;
            return (int) (served < left ? part + 1 : part);
        }
    }

    /** Tills that were told; the least minute stands first, so one walk along a fair meets them all. */
    private static final class Notes {
        private final int[] minutes = new int[MOST_NOTES];
        private final int[] stalls = new int[MOST_NOTES];
        private final int[] tills = new int[MOST_NOTES];
        private int size = 0;

        private void add(int minute, int stall, int till) {
            if (size >= MOST_NOTES) {
                return;
            }
            int at = size;
            while (at > 0 && minutes[at - 1] > minute) {
                minutes[at] = minutes[at - 1];
                stalls[at] = stalls[at - 1];
                tills[at] = tills[at - 1];
                at--;
            }
            minutes[at] = minute;
            stalls[at] = stall;
            tills[at] = till;
            size++;
        }

        private void copyFrom(Notes other) {
            size = other.size;
            System.arraycopy(other.minutes, 0, minutes, 0, MOST_NOTES);
            System.arraycopy(other.stalls, 0, stalls, 0, MOST_NOTES);
            System.arraycopy(other.tills, 0, tills, 0, MOST_NOTES);
        }

        /** The first minute has the number 0, so behind it one has passed. */
        private static int passedBehind(int minute) {
            return minute + 1;
        }

        /** Whether a fair that begins goes on as the notes say. */
        private boolean fit(Fair fair, Rule rule) {
            for (int i = 0; i < size; i++) {
                fair.go(rule, passedBehind(minutes[i]) - fair.minute, NONE);
                if (fair.till[stalls[i]] != tills[i]) {
                    return false;
                }
            }
            return true;
        }
    }

    /** All that an image keeps. */
    private static final class World {
        private boolean open = false;
        private int inForce = NONE;
        private int x = 0;
        private final Fair told = new Fair();
        private final Fair now = new Fair();
        private final Notes notes = new Notes();

        private void begin(Fair fair) {
            open = true;
            told.copyFrom(fair);
            now.copyFrom(fair);
            notes.size = 0;
        }

        private void copyFrom(World other) {
            open = other.open;
            inForce = other.inForce;
            x = other.x;
            told.copyFrom(other.told);
            now.copyFrom(other.now);
            notes.copyFrom(other.notes);
        }
    }

    /** How the fair was ahead of each of the last acts. */
    private static final class Past {
        private final Fair[] fairs = new Fair[MOST_ACTS];
        private int next = 0;
        private int size = 0;

        private Past() {
            for (int i = 0; i < MOST_ACTS; i++) {
                fairs[i] = new Fair();
            }
        }

        private void keep(Fair now) {
            fairs[next].copyFrom(now);
            next = (next + 1) % MOST_ACTS;
            size = Math.min(MOST_ACTS, size + 1);
        }

        private void takeBack(Fair now) {
            next = (next + MOST_ACTS - 1) % MOST_ACTS;
            size--;
            now.copyFrom(fairs[next]);
        }

        private void forget() {
            size = 0;
        }
    }

    /** An order of stalls in the ring, stall 0 first. */
    private static final class Order {
        private final int[] who = new int[MOST_STALLS];
        private int size = 0;

        private void begin(int stalls) {
            size = Math.min(stalls, MOST_STALLS);
            for (int i = 0; i < size; i++) {
                who[i] = i;
            }
        }

        private void copyFrom(Order other) {
            size = other.size;
            System.arraycopy(other.who, 0, who, 0, MOST_STALLS);
        }

        /** Becomes the one behind it, least numbers first; false behind the last. */
        private boolean goOn() {
            int low = size - 2;
            while (low > 0 && who[low] > who[low + 1]) {
                low--;
            }
            if (low <= 0) {
                return false;
            }
            int high = size - 1;
            while (high > low && who[high] < who[low]) {
                high--;
            }
            swap(low, high);
            for (int i = low + 1, j = size - 1; i < j; i++, j--) {
                swap(i, j);
            }
            return true;
        }

        private void swap(int i, int j) {
            int kept = who[i];
            who[i] = who[j];
            who[j] = kept;
        }
    }

    /** Fairs that go on otherwise, for what is asked; answers stand in found, an order in best. */
    private static final class Trials {
        private final Fair fair = new Fair();
        private final Order order = new Order();
        private final Order best = new Order();
        private final int[] found = new int[3];
        private final int[] wealthBefore = new int[MOST_STALLS];
        private final int[] wealthOfOne = new int[PRICES_OF_RESTS * PRICES_OF_RESTS];
        private final int[] wealthOfOther = new int[PRICES_OF_RESTS * PRICES_OF_RESTS];
        /** Of each rule that fits, a row: what is in each till. */
        private final int[] tills = new int[(MOST_RULES + 1) * MOST_STALLS];

        private Fair from(Fair other) {
            fair.copyFrom(other);
            return fair;
        }

        private void find(int first, int second, int third) {
            found[0] = first;
            found[1] = second;
            found[2] = third;
        }

        private int whoStandsAt(int place) {
            return within(place, 0, best.size - 1) ? best.who[place] : NO_SUCH;
        }

        private int findBestRing(Fair now, Rule rule, int n) {
            int most = NONE;
            boolean more = true;
            order.begin(now.stalls);
            for (int i = 0; i < MOST_ORDERS && more; i++) {
                from(now).stand(order.who);
                int paid = fair.go(rule, n, NONE);
                if (paid > most) {
                    most = paid;
                    best.copyFrom(order);
                }
                more = order.goOn();
            }
            return most;
        }

        private int findQuietRing(Fair now) {
            int fewest = MOST_STALLS + 1;
            boolean more = true;
            from(now);
            order.begin(now.stalls);
            for (int i = 0; i < MOST_ORDERS && more; i++) {
                fair.stand(order.who);
                int many = fair.sumOf(fair.borne);
                if (many < fewest) {
                    fewest = many;
                    best.copyFrom(order);
                }
                more = order.goOn();
            }
            return fewest;
        }

        private void findFairPrice(Fair now, Rule rule, int stall, int n) {
            find(0, NONE, 0);
            for (int price = 1; price <= MOST_PRICE; price++) {
                from(now).price[stall] = price;
                fair.go(rule, n, NONE);
                if (fair.wealth[stall] > found[1]) {
                    find(price, fair.wealth[stall], 0);
                }
            }
        }

        private void findCommission(Fair now, Rule rule, int stall, int n) {
            find(0, NONE, 0);
            for (int keeps = 0; keeps <= MOST_KEEPS; keeps++) {
                from(now).keeps = keeps;
                fair.go(rule, n, NONE);
                if (fair.wealth[stall] > found[1]) {
                    find(keeps, fair.wealth[stall], 0);
                }
            }
        }

        private void findRests(Fair now, Rule rule, int one, int other, int n) {
            for (int i = 0; i < PRICES_OF_RESTS * PRICES_OF_RESTS; i++) {
                from(now).price[one] = priceOfRests(i / PRICES_OF_RESTS);
                fair.price[other] = priceOfRests(i % PRICES_OF_RESTS);
                fair.go(rule, n, NONE);
                wealthOfOne[i] = fair.wealth[one];
                wealthOfOther[i] = fair.wealth[other];
            }
            find(0, NO_SUCH, NO_SUCH);
            for (int i = 0; i < PRICES_OF_RESTS; i++) {
                for (int j = 0; j < PRICES_OF_RESTS; j++) {
                    if (!rest(i, j)) {
                        continue;
                    }
                    if (found[0] == 0) {
                        find(0, priceOfRests(i), priceOfRests(j));
                    }
                    found[0]++;
                }
            }
        }

        private static int priceOfRests(int i) {
            return 2 + 2 * i;
        }

        private boolean rest(int i, int j) {
            int here = i * PRICES_OF_RESTS + j;
            for (int k = 0; k < PRICES_OF_RESTS; k++) {
                if (wealthOfOne[k * PRICES_OF_RESTS + j] > wealthOfOne[here]
                        || wealthOfOther[i * PRICES_OF_RESTS + k] > wealthOfOther[here]) {
                    return false;
                }
            }
            return true;
        }

        private void findMakeUp(Fair now, Rule rule, int n) {
            find(from(now).go(rule, n, NONE), NO_SUCH, NO_SUCH);
            for (int i = 0; i < now.stalls; i++) {
                for (int j = 0; j < now.stalls; j++) {
                    if (!now.bears(i, j)) {
                        continue;
                    }
                    from(now).flipGrudge(i, j);
                    int paid = fair.go(rule, n, NONE);
                    if (paid > found[0]) {
                        find(paid, i, j);
                    }
                }
            }
        }

        private void findAway(Fair now, Rule rule, int n) {
            find(NONE, from(now).go(rule, n, NONE), 0);
            for (int i = 0; i < now.buyers; i++) {
                int paid = from(now).go(rule, n, i);
                if (paid > found[1]) {
                    find(i, paid, 0);
                }
            }
        }

        private void findSwaps(Fair now, Rule rule, int n) {
            from(now).go(rule, n, NONE);
            System.arraycopy(fair.wealth, 0, wealthBefore, 0, MOST_STALLS);
            find(0, NO_SUCH, NO_SUCH);
            for (int i = 0; i < now.stalls; i++) {
                for (int j = i + 1; j < now.stalls; j++) {
                    from(now).swapPlaces(i, j);
                    fair.go(rule, n, NONE);
                    if (fair.wealth[i] <= wealthBefore[i] || fair.wealth[j] <= wealthBefore[j]) {
                        continue;
                    }
                    if (found[0] == 0) {
                        find(0, i, j);
                    }
                    found[0]++;
                }
            }
        }

        private static Rule ruleOf(Rule[] rules, int rule) {
            return within(rule, 0, rules.length - 1) ? rules[rule] : null;
        }

        private void findRuled(World world, Rule[] rules, int ruleCount) {
            find(0, NO_SUCH, 0);
            for (int i = NONE; i < ruleCount; i++) {
                if (!world.notes.fit(from(world.told), ruleOf(rules, i))) {
                    continue;
                }
                if (found[0] == 0) {
                    found[1] = i;
                }
                found[0]++;
            }
        }

        private void findLook(World world, Rule[] rules, int ruleCount, int n) {
            int rows = 0;
            for (int i = NONE; i < ruleCount && rows <= MOST_RULES; i++) {
                Rule rule = ruleOf(rules, i);
                if (!world.notes.fit(from(world.told), rule)) {
                    continue;
                }
                from(world.told).go(rule, Notes.passedBehind(n), NONE);
                System.arraycopy(fair.till, 0, tills, rows * MOST_STALLS, MOST_STALLS);
                rows++;
            }
            find(NO_SUCH, NO_SUCH, 0);
            for (int i = 0; i < world.told.stalls && rows > 0; i++) {
                int alike = mostAlike(i, rows);
                if (found[0] == NO_SUCH || alike < found[1]) {
                    find(i, alike, 0);
                }
            }
        }

        /** Of all rows the most that have the same in one stall's till. */
        private int mostAlike(int stall, int rows) {
            int most = 0;
            for (int i = 0; i < rows; i++) {
                int alike = 0;
                for (int j = 0; j < rows; j++) {
                    if (tills[i * MOST_STALLS + stall] == tills[j * MOST_STALLS + stall]) {
                        alike++;
                    }
                }
                most = Math.max(most, alike);
            }
            return most;
        }

        private int findRings(World world, Rule rule) {
            int many = 0;
            boolean more = true;
            best.begin(0);
            order.begin(world.told.stalls);
            for (int i = 0; i < MOST_ORDERS && more; i++) {
                from(world.told).stand(order.who);
                if (world.notes.fit(fair, rule)) {
                    if (many == 0) {
                        best.copyFrom(order);
                    }
                    many++;
                }
                more = order.goOn();
            }
            return many;
        }

        private void findRains(World world, Rule rule, int times, int n, int percent) {
            long x = world.x;
            find(0, 0, 0);
            for (int i = 0; i < times; i++) {
                from(world.now);
                for (int j = 0; j < n; j++) {
                    x = (x * 1103515245L + 12345L) % 2147483648L;
                    if (x / 65536 % 100 >= percent) {
                        found[0] += fair.trade(rule, NONE);
                    }
                    fair.closeMinute();
                }
                found[1] += fair.sumOf(fair.goods);
            }
        }
    }
}
