import java.util.ArrayDeque;
import java.util.ArrayList;
import java.util.Collections;
import java.util.Deque;
import java.util.HashMap;
import java.util.List;
import java.util.Map;
import java.util.TreeMap;
import java.util.function.ToIntFunction;

/** The document once more, by plainer means: trees, copies, no short cuts. */
final class Model {
    static final int NONE = -1;

    /** A fault ends the reading. */
    static final class Fault extends RuntimeException {
        final int number;

        Fault(int place, int kind) {
            number = 1 + 8 * place + kind;
        }
    }

    interface Sum {
        long of(State s, int buyer, int stall);
    }

    record Clause(Sum sum, Sum test) {
    }

    record Note(int n, int stall, int till) {
    }

    static final class State {
        int lasts;
        int keeps;
        int minute;
        List<int[]> stalls = new ArrayList<>(); // goods, price, tongue, till, wealth, sold
        List<int[]> buyers = new ArrayList<>(); // purse, came, had of each stall
        List<Integer> ring = new ArrayList<>();
        List<List<Integer>> grudges = new ArrayList<>();

        State copy() {
            State s = new State();
            s.lasts = lasts;
            s.keeps = keeps;
            s.minute = minute;
            for (int[] row : stalls) {
                s.stalls.add(row.clone());
            }
            for (int[] row : buyers) {
                s.buyers.add(row.clone());
            }
            s.ring.addAll(ring);
            s.grudges.addAll(grudges);
            return s;
        }

        int seller(int stall) {
            int place = ring.indexOf(stall);
            return ring.get((place + ring.size() - 1) % ring.size());
        }

        boolean bears(int one, int other) {
            return grudges.contains(List.of(one, other));
        }

        void flip(int one, int other) {
            List<Integer> grudge = List.of(one, other);
            if (!grudges.remove(grudge)) {
                grudges.add(grudge);
            }
        }

        int praise(int stall) {
            int who = seller(stall);
            int tongue = stalls.get(who)[2];
            return bears(who, stall) ? tongue / 2 : tongue;
        }

        boolean can(int buyer, int stall) {
            return stalls.get(stall)[0] >= 1 && stalls.get(stall)[1] <= buyers.get(buyer)[0];
        }

        int go(List<Clause> rule, int n, int absent) {
            int paid = 0;
            for (int i = 0; i < n; i++) {
                paid += pass(rule, absent, false);
            }
            return paid;
        }

        /** The minute of this number is the last that passes. */
        void goThrough(List<Clause> rule, int last) {
            while (minute <= last) {
                pass(rule, NONE, false);
            }
        }

        int pass(List<Clause> rule, int absent, boolean rain) {
            int paid = 0;
            for (int b = 0; b < buyers.size() && !rain; b++) {
                if (b == absent) {
                    continue;
                }
                int chosen = choose(rule, b);
                if (chosen < 0) {
                    continue;
                }
                int cost = stalls.get(chosen)[1];
                stalls.get(chosen)[0]--;
                stalls.get(chosen)[5]++;
                buyers.get(b)[0] -= cost;
                buyers.get(b)[2 + chosen]++;
                stalls.get(seller(chosen))[3] += cost;
                paid += cost;
            }
            if (minute % lasts == lasts - 1) {
                dusk();
            }
            minute++;
            return paid;
        }

        int choose(List<Clause> rule, int b) {
            TreeMap<Long, Integer> byWorth = new TreeMap<>();
            for (int s = 0; s < stalls.size(); s++) {
                if (can(b, s)) {
                    byWorth.putIfAbsent(rule == null ? praise(s) + (buyers.get(b)[1] == s ? 3L : 0L) : worth(rule, b, s), s);
                }
            }
            if (byWorth.isEmpty() || rule != null && byWorth.lastKey() <= 0) {
                return -1;
            }
            return byWorth.lastEntry().getValue();
        }

        long worth(List<Clause> rule, int b, int s) {
            for (Clause clause : rule) {
                if (clause.test() == null || clause.test().of(this, b, s) != 0) {
                    return clause.sum().of(this, b, s);
                }
            }
            return 0;
        }

        void dusk() {
            int[] more = new int[6];
            for (int p = 0; p < ring.size(); p++) {
                int who = ring.get(p);
                int behind = ring.get((p + 1) % ring.size());
                int till = stalls.get(who)[3];
                int kept = Math.floorDiv(till * keeps, 10);
                more[who] += kept;
                more[behind] += till - kept;
            }
            for (int s = 0; s < stalls.size(); s++) {
                stalls.get(s)[3] = 0;
                stalls.get(s)[4] += more[s];
            }
        }
    }

    static final class All {
        State told = null;
        State now = null;
        List<Note> notes = new ArrayList<>();
        int x = 0;
        int force = NONE;

        All copy() {
            All a = new All();
            a.told = told == null ? null : told.copy();
            a.now = now == null ? null : now.copy();
            a.notes.addAll(notes);
            a.x = x;
            a.force = force;
            return a;
        }
    }

    private final StringBuilder tape = new StringBuilder();
    private final List<List<Clause>> rules = new ArrayList<>();
    private All all = new All();
    private final Deque<State> past = new ArrayDeque<>();
    private final Map<Integer, All> images = new HashMap<>();

    // ---- texts

    private static final class Text {
        final String s;
        int at = 0;
        int parts = 0;

        Text(String s) {
            this.s = s;
        }

        char see() {
            while (at < s.length() && s.charAt(at) == ' ') {
                at++;
            }
            return at < s.length() ? s.charAt(at) : '\uffff';
        }

        Fault wrong() {
            see();
            return new Fault(at, 0);
        }

        String word() {
            see();
            int to = at;
            while (to < s.length() && s.charAt(to) >= 'a' && s.charAt(to) <= 'z') {
                to++;
            }
            return s.substring(at, to);
        }

        boolean isWord(String w) {
            if (word().equals(w)) {
                at += w.length();
                return true;
            }
            return false;
        }

        boolean isSign(String sign) {
            see();
            if (s.startsWith(sign, at)) {
                at += sign.length();
                return true;
            }
            return false;
        }

        int number(int least, int most, int not) {
            see();
            int place = at;
            while (at < s.length() && s.charAt(at) >= '0' && s.charAt(at) <= '9') {
                at++;
            }
            String digits = s.substring(place, at);
            if (digits.isEmpty()) {
                throw new Fault(place, 0);
            }
            if (digits.length() > 5) {
                throw new Fault(place, 1);
            }
            int n = Integer.parseInt(digits);
            if (n < least || n > most || n == not) {
                throw new Fault(place, 1);
            }
            return n;
        }

        void part(int place) {
            if (++parts > 60) {
                throw new Fault(place, 3);
            }
        }

        boolean isEnd() {
            return see() == '\uffff';
        }
    }

    private static State readFair(String s) {
        Text t = new Text(s);
        State f = new State();
        int clauses = 0;
        do {
            String w = t.word();
            int place = t.at;
            if (!List.of("fair", "stall", "grudge", "buyer").contains(w)) {
                throw new Fault(place, 0);
            }
            if (clauses == 40 || clauses == 0 && !w.equals("fair") || clauses > 0 && w.equals("fair")
                    || w.equals("stall") && f.stalls.size() == 6 || w.equals("buyer") && f.buyers.size() == 6) {
                throw new Fault(place, 4);
            }
            clauses++;
            t.at += w.length();
            int last = f.stalls.size() - 1;
            switch (w) {
                case "fair" -> {
                    f.lasts = t.number(1, 20, NONE);
                    f.keeps = t.number(0, 9, NONE);
                }
                case "stall" -> {
                    f.stalls.add(new int[] {t.number(0, 20, NONE), t.number(1, 40, NONE), t.number(0, 20, NONE), 0, 0, 0});
                    f.ring.add(last + 1);
                }
                case "grudge" -> {
                    int one = t.number(0, last, NONE);
                    int other = t.number(0, last, one);
                    if (!f.bears(one, other)) {
                        f.flip(one, other);
                    }
                }
                default -> f.buyers.add(new int[] {t.number(0, 99, NONE), t.number(0, last, NONE), 0, 0, 0, 0, 0, 0});
            }
        } while (t.isSign(";"));
        if (!t.isEnd()) {
            throw t.wrong();
        }
        return f;
    }

    private static List<Clause> readRule(String s) {
        Text t = new Text(s);
        List<Clause> rule = new ArrayList<>();
        do {
            String w = t.word();
            if (!w.equals("buy")) {
                throw new Fault(t.at, 0);
            }
            if (rule.size() == 12) {
                throw new Fault(t.at, 4);
            }
            t.at += 3;
            Sum sum = sum(t);
            rule.add(new Clause(sum, t.isWord("if") ? test(t, 0) : null));
        } while (t.isSign(";"));
        if (!t.isEnd()) {
            throw t.wrong();
        }
        return rule;
    }

    private static Sum test(Text t, int depth) {
        Sum left = part(t, depth);
        while (t.isWord("or")) {
            Sum a = left;
            Sum b = part(t, depth);
            left = (s, x, y) -> a.of(s, x, y) != 0 || b.of(s, x, y) != 0 ? 1 : 0;
        }
        return left;
    }

    private static Sum part(Text t, int depth) {
        Sum left = fact(t, depth);
        while (t.isWord("and")) {
            Sum a = left;
            Sum b = fact(t, depth);
            left = (s, x, y) -> a.of(s, x, y) != 0 && b.of(s, x, y) != 0 ? 1 : 0;
        }
        return left;
    }

    private static Sum fact(Text t, int depth) {
        char c = t.see();
        int place = t.at;
        if (t.isWord("not")) {
            if (depth == 10) {
                throw new Fault(place, 2);
            }
            Sum a = fact(t, depth + 1);
            return (s, x, y) -> a.of(s, x, y) != 0 ? 0 : 1;
        }
        if (c == '[') {
            if (depth == 10) {
                throw new Fault(place, 2);
            }
            t.at++;
            Sum a = test(t, depth + 1);
            if (!t.isSign("]")) {
                throw t.wrong();
            }
            return a;
        }
        Sum a = sum(t);
        t.see();
        int at = t.at;
        for (String sign : List.of("<=", ">=", "<", "=", ">")) {
            if (t.isSign(sign)) {
                t.part(at);
                Sum b = sum(t);
                return (s, x, y) -> {
                    long p = a.of(s, x, y);
                    long q = b.of(s, x, y);
                    return switch (sign) {
                        case "<" -> p < q;
                        case "<=" -> p <= q;
                        case "=" -> p == q;
                        case ">=" -> p >= q;
                        default -> p > q;
                    } ? 1 : 0;
                };
            }
        }
        throw t.wrong();
    }

    private static Sum sum(Text t) {
        Sum left = term(t);
        while (t.see() == '+' || t.see() == '-') {
            boolean plus = t.see() == '+';
            t.at++;
            Sum a = left;
            Sum b = term(t);
            left = (s, x, y) -> plus ? a.of(s, x, y) + b.of(s, x, y) : a.of(s, x, y) - b.of(s, x, y);
        }
        return left;
    }

    private static Sum term(Text t) {
        Sum left = value(t);
        while (t.see() == '*' || t.see() == '/' || t.see() == '%') {
            char sign = t.see();
            t.at++;
            Sum a = left;
            Sum b = value(t);
            left = (s, x, y) -> {
                long p = a.of(s, x, y);
                long q = b.of(s, x, y);
                return sign == '*' ? p * q : q == 0 ? 0 : sign == '/' ? p / q : p % q;
            };
        }
        return left;
    }

    private static Sum value(Text t) {
        char c = t.see();
        int place = t.at;
        if (c >= '0' && c <= '9') {
            long n = t.number(0, 99999, NONE);
            t.part(place);
            return (s, x, y) -> n;
        }
        String w = t.word();
        Sum sum = switch (w) {
            case "buyer" -> (s, b, g) -> b;
            case "stall" -> (s, b, g) -> g;
            case "purse" -> (s, b, g) -> s.buyers.get(b)[0];
            case "price" -> (s, b, g) -> s.stalls.get(g)[1];
            case "praise" -> (s, b, g) -> s.praise(g);
            case "came" -> (s, b, g) -> s.buyers.get(b)[1] == g ? 1 : 0;
            case "goods" -> (s, b, g) -> s.stalls.get(g)[0];
            case "sold" -> (s, b, g) -> s.stalls.get(g)[5];
            case "had" -> (s, b, g) -> s.buyers.get(b)[2 + g];
            case "grudge" -> (s, b, g) -> s.bears(s.seller(g), g) ? 1 : 0;
            case "minute" -> (s, b, g) -> s.minute % s.lasts;
            case "day" -> (s, b, g) -> s.minute / s.lasts;
            default -> throw new Fault(place, 0);
        };
        t.part(place);
        t.at += w.length();
        return sum;
    }

    // ---- the face

    int feed(int a, int b, int c, int d, int e) {
        if (tape.length() > 380) {
            return NONE;
        }
        for (int w : new int[] {a, b, c, d, e}) {
            tape.append((char) (w >>> 24)).append((char) (w >>> 16 & 255)).append((char) (w >>> 8 & 255)).append((char) (w & 255));
        }
        return tape.length();
    }

    int end(int n) {
        if (n < 0 || n > tape.length()) {
            return NONE;
        }
        tape.setLength(n);
        return n;
    }

    int fair() {
        String s = tape.toString();
        tape.setLength(0);
        try {
            State f = readFair(s);
            all.told = f.copy();
            all.now = f;
            all.notes.clear();
            past.clear();
            return f.stalls.size();
        } catch (Fault fault) {
            return -2 - fault.number;
        }
    }

    int rule() {
        if (rules.size() == 6) {
            return NONE;
        }
        String s = tape.toString();
        tape.setLength(0);
        try {
            rules.add(readRule(s));
            return rules.size() - 1;
        } catch (Fault fault) {
            return -2 - fault.number;
        }
    }

    int force(int rule) {
        if (rule < -1 || rule >= rules.size()) {
            return -2;
        }
        int was = all.force;
        all.force = rule;
        return was;
    }

    private List<Clause> inForce() {
        return all.force < 0 ? null : rules.get(all.force);
    }

    private boolean noStall(int stall) {
        return all.now == null || stall < 0 || stall >= all.now.stalls.size();
    }

    private boolean noBuyer(int buyer) {
        return all.now == null || buyer < 0 || buyer >= all.now.buyers.size();
    }

    private static boolean out(int n, int least, int most) {
        return n < least || n > most;
    }

    int stall(int stall, int what) {
        if (noStall(stall) || out(what, 0, 8)) {
            return NONE;
        }
        State s = all.now;
        int[] row = s.stalls.get(stall);
        int bits = 0;
        for (int i = 0; i < 6; i++) {
            bits += s.bears(stall, i) ? 1 << i : 0;
        }
        return new int[] {row[0], row[1], row[3], row[4], s.ring.indexOf(stall), s.seller(stall), s.praise(stall), bits, row[5]}[what];
    }

    int buyer(int buyer, int what) {
        if (noBuyer(buyer) || out(what, 0, 2)) {
            return NONE;
        }
        int bits = 0;
        for (int i = 0; i < all.now.stalls.size(); i++) {
            bits += all.now.can(buyer, i) ? 1 << i : 0;
        }
        return new int[] {all.now.buyers.get(buyer)[0], all.now.buyers.get(buyer)[1], bits}[what];
    }

    int had(int buyer, int stall) {
        return noBuyer(buyer) || noStall(stall) ? NONE : all.now.buyers.get(buyer)[2 + stall];
    }

    private void act() {
        past.addLast(all.now.copy());
        if (past.size() > 20) {
            past.removeFirst();
        }
    }

    int minute() {
        if (all.now == null || all.now.minute >= 999) {
            return NONE;
        }
        act();
        return all.now.pass(inForce(), NONE, false);
    }

    int move(int one, int other) {
        if (noStall(one) || noStall(other) || one == other) {
            return NONE;
        }
        act();
        Collections.swap(all.now.ring, all.now.ring.indexOf(one), all.now.ring.indexOf(other));
        return all.now.ring.indexOf(one);
    }

    int price(int stall, int price) {
        if (noStall(stall) || out(price, 1, 40) || all.now.stalls.get(stall)[1] == price) {
            return NONE;
        }
        act();
        int was = all.now.stalls.get(stall)[1];
        all.now.stalls.get(stall)[1] = price;
        return was;
    }

    int grudge(int one, int other) {
        if (noStall(one) || noStall(other) || one == other) {
            return NONE;
        }
        act();
        all.now.flip(one, other);
        return all.now.bears(one, other) ? 1 : 0;
    }

    int earn(int buyer, int much) {
        if (noBuyer(buyer) || out(much, 1, 99)) {
            return NONE;
        }
        act();
        int[] row = all.now.buyers.get(buyer);
        row[0] = row[0] + much > 999 ? 999 : row[0] + much;
        return row[0];
    }

    int undo() {
        if (past.isEmpty()) {
            return NONE;
        }
        all.now = past.removeLast();
        return past.size();
    }

    int ahead(int stall, int n, int what) {
        if (noStall(stall) || out(n, 0, 100) || out(what, 0, 2)) {
            return NONE;
        }
        State s = all.now.copy();
        s.go(inForce(), n, NONE);
        return s.stalls.get(stall)[new int[] {0, 3, 4}[what]];
    }

    int out(int stall) {
        if (noStall(stall)) {
            return NONE;
        }
        for (int k = 0; k < 200; k++) {
            State s = all.now.copy();
            s.go(inForce(), k, NONE);
            if (s.stalls.get(stall)[0] == 0) {
                return all.now.minute + k;
            }
        }
        return -2;
    }

    int taken(int n) {
        return all.now == null || out(n, 0, 100) ? NONE : all.now.copy().go(inForce(), n, NONE);
    }

    private static List<List<Integer>> orders(int n) {
        List<List<Integer>> orders = new ArrayList<>();
        spread(n, new ArrayList<>(n == 0 ? List.of() : List.of(0)), orders);
        return orders;
    }

    private static void spread(int n, List<Integer> order, List<List<Integer>> orders) {
        if (order.size() == n) {
            orders.add(List.copyOf(order));
        }
        for (int i = 1; i < n; i++) {
            if (!order.contains(i)) {
                order.add(i);
                spread(n, order, orders);
                order.remove(order.size() - 1);
            }
        }
    }

    private int standing(List<Integer> order, int place) {
        return order == null || place >= order.size() ? -2 : order.get(place);
    }

    private static State stood(State s, List<Integer> order) {
        State copy = s.copy();
        copy.ring = new ArrayList<>(order);
        return copy;
    }

    private List<Integer> best(ToIntFunction<List<Integer>> worth) {
        List<Integer> best = null;
        for (List<Integer> order : orders(all.now.stalls.size())) {
            if (best == null || worth.applyAsInt(order) > worth.applyAsInt(best)) {
                best = order;
            }
        }
        return best;
    }

    int bestRing(int n, int what) {
        if (all.now == null || out(n, 1, 40) || out(what, -1, 5)) {
            return -3;
        }
        ToIntFunction<List<Integer>> worth = order -> stood(all.now, order).go(inForce(), n, NONE);
        List<Integer> best = best(worth);
        return what < 0 ? worth.applyAsInt(best) : standing(best, what);
    }

    int quietRing(int what) {
        if (all.now == null || out(what, -1, 5)) {
            return -3;
        }
        ToIntFunction<List<Integer>> worth = order -> {
            int many = 0;
            for (int i = 0; i < order.size(); i++) {
                many += all.now.bears(order.get(i), order.get((i + 1) % order.size())) ? 1 : 0;
            }
            return -many;
        };
        List<Integer> best = best(worth);
        return what < 0 ? -worth.applyAsInt(best) : standing(best, what);
    }

    int fairPrice(int stall, int n, int what) {
        if (noStall(stall) || out(n, 1, 60) || out(what, 0, 1)) {
            return NONE;
        }
        TreeMap<Integer, Integer> byWealth = new TreeMap<>();
        for (int p = 1; p <= 40; p++) {
            State s = all.now.copy();
            s.stalls.get(stall)[1] = p;
            s.go(inForce(), n, NONE);
            byWealth.putIfAbsent(s.stalls.get(stall)[4], p);
        }
        return what == 0 ? byWealth.lastEntry().getValue() : byWealth.lastKey();
    }

    int commission(int stall, int n, int what) {
        if (noStall(stall) || out(n, 1, 60) || out(what, 0, 1)) {
            return NONE;
        }
        TreeMap<Integer, Integer> byWealth = new TreeMap<>();
        for (int k = 0; k <= 9; k++) {
            State s = all.now.copy();
            s.keeps = k;
            s.go(inForce(), n, NONE);
            byWealth.putIfAbsent(s.stalls.get(stall)[4], k);
        }
        return what == 0 ? byWealth.lastEntry().getValue() : byWealth.lastKey();
    }

    private int[] wealths(int one, int p, int other, int q, int n) {
        State s = all.now.copy();
        s.stalls.get(one)[1] = p;
        s.stalls.get(other)[1] = q;
        s.go(inForce(), n, NONE);
        return new int[] {s.stalls.get(one)[4], s.stalls.get(other)[4]};
    }

    int rests(int one, int other, int n, int what) {
        if (noStall(one) || noStall(other) || one == other || out(n, 1, 20) || out(what, 0, 2)) {
            return NONE;
        }
        List<int[]> found = new ArrayList<>();
        for (int p = 2; p <= 10; p += 2) {
            for (int q = 2; q <= 10; q += 2) {
                int[] here = wealths(one, p, other, q, n);
                boolean rest = true;
                for (int r = 2; r <= 10; r += 2) {
                    rest &= wealths(one, r, other, q, n)[0] <= here[0] && wealths(one, p, other, r, n)[1] <= here[1];
                }
                if (rest) {
                    found.add(new int[] {p, q});
                }
            }
        }
        return what == 0 ? found.size() : found.isEmpty() ? -2 : found.get(0)[what - 1];
    }

    int makeUp(int n, int what) {
        if (all.now == null || out(n, 1, 40) || out(what, 0, 2)) {
            return NONE;
        }
        int[] best = {all.now.copy().go(inForce(), n, NONE), -2, -2};
        for (int i = 0; i < 6; i++) {
            for (int j = 0; j < 6; j++) {
                State s = all.now.copy();
                if (s.bears(i, j)) {
                    s.flip(i, j);
                    int paid = s.go(inForce(), n, NONE);
                    best = paid > best[0] ? new int[] {paid, i, j} : best;
                }
            }
        }
        return best[what];
    }

    int away(int n, int what) {
        if (all.now == null || out(n, 1, 40) || out(what, 0, 1)) {
            return -2;
        }
        TreeMap<Integer, Integer> byPaid = new TreeMap<>();
        for (int b = -1; b < all.now.buyers.size(); b++) {
            byPaid.putIfAbsent(all.now.copy().go(inForce(), n, b), b);
        }
        return what == 0 ? byPaid.lastEntry().getValue() : byPaid.lastKey();
    }

    int swaps(int n, int what) {
        if (all.now == null || out(n, 1, 40) || out(what, 0, 2)) {
            return NONE;
        }
        State without = all.now.copy();
        without.go(inForce(), n, NONE);
        List<int[]> found = new ArrayList<>();
        for (int i = 0; i < all.now.stalls.size(); i++) {
            for (int j = i + 1; j < all.now.stalls.size(); j++) {
                State s = all.now.copy();
                Collections.swap(s.ring, s.ring.indexOf(i), s.ring.indexOf(j));
                s.go(inForce(), n, NONE);
                if (s.stalls.get(i)[4] > without.stalls.get(i)[4] && s.stalls.get(j)[4] > without.stalls.get(j)[4]) {
                    found.add(new int[] {i, j});
                }
            }
        }
        return what == 0 ? found.size() : found.isEmpty() ? -2 : found.get(0)[what - 1];
    }

    int pence(int much, int stall) {
        if (noStall(stall) || out(much, 0, 9999)) {
            return NONE;
        }
        long sum = all.now.stalls.stream().mapToLong(row -> row[4]).sum();
        if (sum == 0) {
            return 0;
        }
        int n = all.now.stalls.size();
        long[] part = new long[n];
        List<Integer> byLoss = new ArrayList<>();
        long left = much;
        for (int i = 0; i < n; i++) {
            part[i] = (long) much * all.now.stalls.get(i)[4] / sum;
            left -= part[i];
            byLoss.add(i);
        }
        byLoss.sort((i, j) -> Long.compare((long) much * all.now.stalls.get(j)[4] % sum, (long) much * all.now.stalls.get(i)[4] % sum));
        for (int i = 0; i < left; i++) {
            part[byLoss.get(i)]++;
        }
        return (int) part[stall];
    }

    int note(int n, int stall, int till) {
        if (n == NONE) {
            all.notes.clear();
            return 0;
        }
        if (out(n, 0, 60) || noStall(stall) || out(till, 0, 9999) || all.notes.size() == 10) {
            return -2;
        }
        all.notes.add(new Note(n, stall, till));
        return all.notes.size();
    }

    private boolean fits(State begin, List<Clause> rule) {
        for (Note note : all.notes) {
            State s = begin.copy();
            s.goThrough(rule, note.n());
            if (s.stalls.get(note.stall())[3] != note.till()) {
                return false;
            }
        }
        return true;
    }

    private List<Integer> fitting() {
        List<Integer> fitting = new ArrayList<>();
        for (int r = -1; r < rules.size(); r++) {
            if (fits(all.told, r < 0 ? null : rules.get(r))) {
                fitting.add(r);
            }
        }
        return fitting;
    }

    int ruled(int what) {
        if (all.now == null || out(what, 0, 1)) {
            return -3;
        }
        List<Integer> fitting = fitting();
        return what == 0 ? fitting.size() : fitting.isEmpty() ? -2 : fitting.get(0);
    }

    int look(int n, int what) {
        if (all.now == null || out(n, 0, 60) || out(what, 0, 1)) {
            return NONE;
        }
        List<Integer> fitting = fitting();
        if (fitting.isEmpty() || all.told.stalls.isEmpty()) {
            return -2;
        }
        TreeMap<Integer, Integer> byAlike = new TreeMap<>();
        for (int i = 0; i < all.told.stalls.size(); i++) {
            Map<Integer, Integer> many = new HashMap<>();
            for (int r : fitting) {
                State s = all.told.copy();
                s.goThrough(r < 0 ? null : rules.get(r), n);
                many.merge(s.stalls.get(i)[3], 1, Integer::sum);
            }
            byAlike.putIfAbsent(Collections.max(many.values()), i);
        }
        return what == 0 ? byAlike.firstEntry().getValue() : byAlike.firstKey();
    }

    int rings(int what) {
        if (all.now == null || out(what, -1, 5)) {
            return -3;
        }
        List<List<Integer>> fitting = new ArrayList<>();
        for (List<Integer> order : orders(all.told.stalls.size())) {
            if (fits(stood(all.told, order), inForce())) {
                fitting.add(order);
            }
        }
        return what < 0 ? fitting.size() : standing(fitting.isEmpty() ? null : fitting.get(0), what);
    }

    int seed(int x) {
        if (x < 0) {
            return NONE;
        }
        int was = all.x;
        all.x = x;
        return was;
    }

    int rains(int m, int n, int p, int what) {
        if (all.now == null || out(m, 1, 10) || out(n, 1, 60) || out(p, 0, 100) || out(what, 0, 1)) {
            return NONE;
        }
        long x = all.x;
        int paid = 0;
        int left = 0;
        for (int i = 0; i < m; i++) {
            State s = all.now.copy();
            for (int j = 0; j < n; j++) {
                x = x * 1103515245 + 12345 & Integer.MAX_VALUE;
                paid += s.pass(inForce(), NONE, (x >> 16) % 100 < p);
            }
            left += s.stalls.stream().mapToInt(row -> row[0]).sum();
        }
        return what == 0 ? paid : left;
    }

    private int sum(int column) {
        return all.now == null ? 0 : all.now.stalls.stream().mapToInt(row -> row[column]).sum();
    }

    int count(int what) {
        State s = all.now == null ? new State() : all.now;
        if (out(what, 0, 13)) {
            return NONE;
        }
        return new int[] {s.lasts, s.keeps, s.stalls.size(), s.buyers.size(), rules.size(), all.force, s.minute,
            sum(0), sum(4), sum(3), all.notes.size(), past.size(), all.x, tape.length()}[what];
    }

    int image(int k) {
        if (out(k, 0, 3)) {
            return NONE;
        }
        images.put(k, all.copy());
        return count(6);
    }

    int back(int k) {
        if (!images.containsKey(k)) {
            return NONE;
        }
        all = images.get(k).copy();
        past.clear();
        return count(6);
    }
}
