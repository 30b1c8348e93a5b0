import java.math.BigInteger;
import java.util.ArrayList;
import java.util.Arrays;
import java.util.List;

/** The document once more, by brute force and by other means than the program's, to be compared with it. */
final class Twin {
    static final int NONE = -1, UNKNOWN = -1000000001, OUTSIDE = -1000000002, NOT = -1000000003, FULL = -1000000004;

    /** Kind, strength, height, wits, father of each one. */
    private int[][] people = {};
    private int[] weights = {};
    private int[] good = {3, 5, 7};
    private StringBuilder text = new StringBuilder();
    private int faultAt = NONE;
    private State now = new State(0, 9);
    private List<State> gone = new ArrayList<>();
    private State[] images = new State[2];
    private long[] imageSeeds = new long[2];
    private long seed = 0;
    private List<Integer> seen = new ArrayList<>();
    private List<Integer> book = new ArrayList<>();

    private static final class State {
        int hour, low, harm, fruit;
        int[] tired, held, run, fallen;
        List<Integer> holders = new ArrayList<>();

        State(int people, int fruit) {
            this.fruit = fruit;
            tired = new int[people];
            held = new int[people];
            run = new int[people];
            fallen = new int[people];
            if (people > 0) holders.add(0);
        }

        State copy() {
            State c = new State(0, fruit);
            c.hour = hour;
            c.low = low;
            c.harm = harm;
            c.tired = tired.clone();
            c.held = held.clone();
            c.run = run.clone();
            c.fallen = fallen.clone();
            c.holders = new ArrayList<>(holders);
            return c;
        }

        State heldBy(int p) {
            State c = copy();
            c.holders = new ArrayList<>(List.of(p));
            return c;
        }
    }

    // ---- the edge

    private record Token(char sign, String figures, int at) { }

    private static List<Token> tokens(String text) {
        List<Token> all = new ArrayList<>();
        int k = 0;
        while (k < text.length()) {
            int from = k;
            while (k < text.length() && text.charAt(k) >= '0' && text.charAt(k) <= '9') k++;
            if (k > from) {
                all.add(new Token('#', text.substring(from, k), from));
                continue;
            }
            if (text.charAt(k) != ' ') all.add(new Token(text.charAt(k), "", k));
            k++;
        }
        all.add(new Token('$', "", text.length()));
        return all;
    }

    /** Walks the tokens by what may stand next; answers {fault, place} or null. */
    private int[] parse(String source) {
        List<Integer> w = new ArrayList<>();
        List<int[]> p = new ArrayList<>();
        int[] t = null;
        Integer f = null;
        List<Integer> numbers = new ArrayList<>();
        char clause = ' ';
        boolean numberDue = false;
        for (Token k : tokens(source)) {
            int[] bad1 = {1, k.at};
            if (clause == ' ') {
                if (k.sign == '$' && k.figures.isEmpty() && k.at == source.length()) break;
                if (k.sign == '#' && !k.figures.isEmpty()) return bad1;
                if ("wptf".indexOf(k.sign) < 0) return bad1;
                if (w.isEmpty() && k.sign != 'w') return bad1;
                boolean again = k.sign == 'w' ? !w.isEmpty() : k.sign == 't' ? t != null : k.sign == 'f' ? f != null : p.size() == 6;
                if (again) return new int[] {3, k.at};
                clause = k.sign;
                numbers.clear();
                numberDue = true;
                continue;
            }
            if (numberDue) {
                if (k.figures.isEmpty()) return bad1;
                if (k.figures.length() > 3) return new int[] {2, k.at};
                int v = Integer.parseInt(k.figures);
                if (!inBounds(clause, numbers.size(), v, p.size())) return new int[] {2, k.at};
                numbers.add(v);
                numberDue = clause == 'p' && numbers.size() < 5 || clause == 't' && numbers.size() < 3;
                continue;
            }
            if (clause == 'w' && k.sign == ',' && numbers.size() < 12) {
                numberDue = true;
                continue;
            }
            if (k.sign != ';') return bad1;
            int[] all = numbers.stream().mapToInt(Integer::intValue).toArray();
            if (clause == 'w') w.addAll(numbers);
            if (clause == 'p') p.add(all);
            if (clause == 't') t = all;
            if (clause == 'f') f = all[0];
            clause = ' ';
        }
        weights = w.stream().mapToInt(Integer::intValue).toArray();
        people = p.toArray(new int[0][]);
        good = t == null ? new int[] {3, 5, 7} : t;
        now = new State(people.length, f == null ? 9 : f);
        return null;
    }

    private static boolean inBounds(char clause, int place, int v, int peopleAhead) {
        if (clause == 'w') return v <= 30;
        if (clause == 't') return v <= 9;
        if (clause == 'f') return v <= 99;
        switch (place) {
            case 0: return v <= 4;
            case 1: return v >= 1 && v <= 20;
            case 2: return v >= 1 && v <= 9;
            case 3: return v <= 9;
            default: return v == 9 || v < peopleAhead;
        }
    }

    int feed(int letter) {
        if (letter < 0 || letter > 255) return OUTSIDE;
        if (text.length() == 250) return FULL;
        text.append((char) letter);
        return text.length();
    }

    int edge() {
        String source = text.toString();
        text = new StringBuilder();
        int[] bad = parse(source);
        faultAt = bad == null ? NONE : bad[1];
        if (bad != null) return -10 - bad[0];
        gone.clear();
        images = new State[2];
        seen.clear();
        book.clear();
        return people.length;
    }

    int fault() {
        return faultAt;
    }

    int told(int what) {
        if (what < 0 || what > 13) return OUTSIDE;
        int holding = 0;
        for (int p : now.holders) holding += force(now, p);
        int[] all = {weights.length, people.length, text.length(), now.hour, now.low, now.harm, now.fruit,
            now.holders.isEmpty() ? NONE : now.holders.get(0), now.holders.size() < 2 ? NONE : now.holders.get(1),
            weights.length == 0 ? 0 : weights[now.hour % weights.length], holding, seen.size(), book.size() / 3, gone.size()};
        return all[what];
    }

    int person(int p, int what) {
        if (unknown(p)) return UNKNOWN;
        if (what < 0 || what > 9) return OUTSIDE;
        int[] one = people[p];
        int[] all = {one[0], one[1], one[2], one[3], one[4] == 9 ? NONE : one[4], now.tired[p], now.held[p], now.fallen[p], force(now, p), now.run[p]};
        return all[what];
    }

    int word(int w) {
        return w < 0 || w > 2 ? OUTSIDE : good[w];
    }

    private boolean unknown(int p) {
        return p < 0 || p >= people.length;
    }

    private boolean empty() {
        return weights.length == 0 || people.length == 0;
    }

    // ---- what is done

    private int force(State s, int p) {
        int k = people[p][0], strength = people[p][1];
        if (k == 2) return s.run[p] >= 1 ? 0 : strength;
        if (k == 4 && s.fruit == 0) return 0;
        int f = strength - s.tired[p] / 2;
        if (f < 0) f = 0;
        if (k >= 3 && s.hour % 3 == 2) f /= 2;
        return k == 4 ? f + 2 : f;
    }

    private void pass(State s, int less) {
        int weight = weights[s.hour % weights.length] - less;
        if (weight < 0) weight = 0;
        int f = 0;
        for (int p : s.holders) f += force(s, p);
        if (f < weight) s.low += weight - f;
        if (f > weight) s.low--;
        if (s.low > 99) s.low = 99;
        if (s.low < 0) s.low = 0;
        if (s.holders.size() == 1 && people[s.holders.get(0)][0] == 1 && s.low < 2) s.low = 2;
        s.harm += s.low;
        for (int p = 0; p < people.length; p++) {
            if (s.holders.contains(p)) {
                if (s.tired[p] < 20) s.tired[p]++;
                s.held[p]++;
                s.run[p]++;
                if (people[p][0] == 4 && s.fruit > 0) s.fruit--;
            } else {
                if (s.tired[p] > 0) s.tired[p]--;
                s.run[p] = 0;
            }
        }
        s.hour++;
    }

    private void hourGoesBy() {
        gone.add(now.copy());
        if (gone.size() > 60) gone.remove(0);
        pass(now, 0);
    }

    private boolean tricks(State s, int p, int w) {
        return good[w] > people[p][3] && (s.fallen[p] >> w & 1) == 0;
    }

    private boolean offered(State s, int p, int w) {
        if (!tricks(s, p, w)) return false;
        s.fallen[p] += 1 << w;
        s.holders = new ArrayList<>(List.of(p));
        return true;
    }

    private boolean mayTake(State s, int p) {
        return !s.holders.contains(p) && people[p][4] != 9 && s.holders.contains(people[p][4]);
    }

    int hour(int n) {
        if (n < 1 || n > 99) return OUTSIDE;
        if (empty()) return NOT;
        for (int k = 0; k < n; k++) hourGoesBy();
        return now.low;
    }

    int offer(int p, int w) {
        if (unknown(p)) return UNKNOWN;
        if (w < 0 || w > 2) return OUTSIDE;
        if (now.holders.contains(p)) return NOT;
        return offered(now, p, w) ? 1 : 0;
    }

    int take(int p) {
        if (unknown(p)) return UNKNOWN;
        if (!mayTake(now, p)) return NOT;
        now.holders = new ArrayList<>(List.of(p));
        return people[p][4];
    }

    int join(int p) {
        if (unknown(p)) return UNKNOWN;
        if (now.holders.size() == 2 || now.holders.contains(p)) return NOT;
        int unlike = people[now.holders.get(0)][2] - people[p][2];
        if (unlike * unlike > 1) return NOT;
        now.holders.add(p);
        return told(10);
    }

    int fruit(int n) {
        if (n < 0 || n > 99) return OUTSIDE;
        now.fruit += n;
        if (now.fruit > 999) now.fruit = 999;
        return now.fruit;
    }

    private int draw(int n) {
        BigInteger big = BigInteger.valueOf(seed).multiply(BigInteger.valueOf(1103515245)).add(BigInteger.valueOf(12345));
        seed = big.mod(BigInteger.TWO.pow(31)).longValue();
        return (int) (seed / 65536 % n);
    }

    int drift(int n) {
        if (n < 1 || n > 99) return OUTSIDE;
        if (empty()) return NOT;
        int ahead = now.harm;
        for (int k = 0; k < n; k++) {
            int p = draw(people.length);
            if (mayTake(now, p)) take(p);
            else if (!now.holders.contains(p)) offer(p, draw(3));
            hourGoesBy();
        }
        return now.harm - ahead;
    }

    int undo(int n) {
        if (n < 1 || n > 60) return OUTSIDE;
        if (n > gone.size()) return NOT;
        for (int k = 0; k < n; k++) now = gone.remove(gone.size() - 1);
        return now.hour;
    }

    // ---- tried

    /** All rows of n people, the first one first. */
    private List<int[]> rows(int n) {
        List<int[]> all = new ArrayList<>(List.of(new int[0]));
        for (int k = 0; k < n; k++) {
            List<int[]> longer = new ArrayList<>();
            for (int[] row : all) {
                for (int p = 0; p < people.length; p++) {
                    int[] next = Arrays.copyOf(row, k + 1);
                    next[k] = p;
                    longer.add(next);
                }
            }
            all = longer;
        }
        return all;
    }

    private int[] lows(int[] row) {
        State s = now;
        int[] lows = new int[row.length];
        for (int k = 0; k < row.length; k++) {
            s = s.heldBy(row[k]);
            pass(s, 0);
            lows[k] = s.low;
        }
        return lows;
    }

    private static int most(int[] row) {
        int[] hours = new int[6];
        for (int p : row) hours[p]++;
        return Arrays.stream(hours).max().getAsInt();
    }

    int shifts(int n, int m, int i) {
        if (n < 1 || n > 5 || m < 0 || m > 99) return OUTSIDE;
        if (empty()) return NOT;
        int[] best = null;
        for (int[] row : rows(n)) {
            if (Arrays.stream(lows(row)).max().getAsInt() > m) continue;
            if (best == null || most(row) < most(best)) best = row;
        }
        if (best == null) return NONE;
        if (i == NONE) return most(best);
        return i >= 0 && i < n ? best[i] : NONE;
    }

    int sinks(int n, int m) {
        if (n < 1 || n > 5 || m < 0 || m > 99) return OUTSIDE;
        if (empty()) return NOT;
        int far = 0;
        for (int[] row : rows(n)) {
            int[] lows = lows(row);
            int k = 0;
            while (k < n && lows[k] <= m) k++;
            far = Math.max(far, k);
        }
        return far == n ? NONE : far;
    }

    /** Tries real offers and takings, the lesser one first, of just so many. */
    private List<Integer> way(State s, int goal, int steps) {
        if (steps == 0) return s.holders.contains(goal) ? new ArrayList<>() : null;
        for (int p = 0; p < people.length; p++) {
            if (s.holders.contains(p)) continue;
            boolean can = mayTake(s, p);
            for (int w = 0; w < 3; w++) can |= tricks(now, p, w);
            List<Integer> rest = can ? way(s.heldBy(p), goal, steps - 1) : null;
            if (rest == null) continue;
            rest.add(0, p);
            return rest;
        }
        return null;
    }

    int chain(int p, int i) {
        if (unknown(p)) return UNKNOWN;
        for (int steps = 0; steps <= people.length; steps++) {
            List<Integer> way = way(now, p, steps);
            if (way == null) continue;
            if (i == NONE) return steps;
            return i >= 0 && i < steps ? way.get(i) : NONE;
        }
        return NONE;
    }

    int pair(int what) {
        if (what < 0 || what > 2) return OUTSIDE;
        int[] best = null;
        for (int b = 0; b < people.length; b++) {
            for (int a = 0; a < b; a++) {
                if (Math.abs(people[a][2] - people[b][2]) > 1) continue;
                int f = force(now, a) + force(now, b);
                if (best == null || f > best[2] || f == best[2] && a < best[0]) best = new int[] {a, b, f};
            }
        }
        return best == null ? NONE : best[what];
    }

    private int balance(int p) {
        return now.held[p] * people.length - Arrays.stream(now.held).sum();
    }

    int owes(int p) {
        return unknown(p) ? UNKNOWN : balance(p);
    }

    private static int settle(int[] debts, int from) {
        while (from < debts.length && debts[from] == 0) from++;
        if (from == debts.length) return 0;
        int best = debts.length;
        for (int k = from + 1; k < debts.length; k++) {
            if ((long) debts[k] * debts[from] >= 0) continue;
            debts[k] += debts[from];
            best = Math.min(best, 1 + settle(debts, from + 1));
            debts[k] -= debts[from];
        }
        return best;
    }

    int payments() {
        int[] debts = new int[people.length];
        for (int p = 0; p < debts.length; p++) debts[p] = balance(p);
        return settle(debts, 0);
    }

    int sons(int p) {
        if (unknown(p)) return UNKNOWN;
        int sum = balance(p);
        for (int q = 0; q < people.length; q++) {
            if (people[q][4] == p) sum += sons(q);
        }
        return sum;
    }

    int words(int a, int b, int c, int d, int what) {
        for (int v : new int[] {a, b, c, d}) {
            if (v < 0 || v > 9) return OUTSIDE;
        }
        if (what < 0 || what > 3) return OUTSIDE;
        int bestValue = -1, bestUnder = 1, over = 0, under = 1;
        for (int y = 1; y <= 36; y++) {
            for (int x = 0; x <= y; x++) {
                int value = Math.min(a * x + c * (y - x), b * x + d * (y - x));
                int more = value * bestUnder - bestValue * y;
                if (more < 0 || more == 0 && x * under >= over * y) continue;
                bestValue = value;
                bestUnder = y;
                over = x;
                under = y;
            }
        }
        int g = BigInteger.valueOf(bestValue).gcd(BigInteger.valueOf(bestUnder)).intValue();
        int h = BigInteger.valueOf(over).gcd(BigInteger.valueOf(under)).intValue();
        return new int[] {bestValue / g, bestUnder / g, over / h, under / h}[what];
    }

    int pillar(int p, int n) {
        if (p < 1 || p > 30 || n < 1 || n > 40) return OUTSIDE;
        if (empty()) return NOT;
        State with = now.copy(), without = now.copy();
        for (int k = 0; k < n; k++) {
            pass(with, p);
            pass(without, 0);
        }
        return without.harm - with.harm;
    }

    // ---- what was seen

    int see(int low) {
        if (low < 0 || low > 99) return OUTSIDE;
        if (seen.size() == 5) return FULL;
        seen.add(low);
        return seen.size();
    }

    private List<int[]> seenRows() {
        int[] lows = seen.stream().mapToInt(Integer::intValue).toArray();
        List<int[]> all = rows(lows.length);
        all.removeIf(row -> !Arrays.equals(lows(row), lows));
        return all;
    }

    int who(int i) {
        if (empty()) return NOT;
        List<int[]> all = seenRows();
        if (i == NONE) return all.size();
        return all.isEmpty() || i < 0 || i >= seen.size() ? NONE : all.get(0)[i];
    }

    int sure() {
        if (empty()) return NOT;
        List<int[]> all = seenRows();
        int set = 0;
        for (int p = 0; p < people.length; p++) {
            int q = p;
            if (!all.isEmpty() && all.stream().allMatch(row -> Arrays.stream(row).anyMatch(r -> r == q))) set |= 1 << p;
        }
        return set;
    }

    int write(int p, int w, boolean takes) {
        if (unknown(p)) return UNKNOWN;
        if (w < 0 || w > 2) return OUTSIDE;
        if (book.size() == 60) return FULL;
        book.addAll(List.of(p, w, takes ? 1 : 0));
        return book.size() / 3;
    }

    int judge() {
        State s = now.copy();
        for (int k = 0; k < book.size() / 3; k++) {
            int p = book.get(3 * k);
            if (s.holders.contains(p)) return k;
            if (offered(s, p, book.get(3 * k + 1)) != (book.get(3 * k + 2) == 1)) return k;
        }
        return NONE;
    }

    int tear() {
        int both = seen.size() + book.size() / 3;
        seen.clear();
        book.clear();
        return both;
    }

    // ---- images

    int seed(int v) {
        if (v < 0) return OUTSIDE;
        int was = (int) seed;
        seed = v;
        return was;
    }

    int keep(int i) {
        if (i != 0 && i != 1) return UNKNOWN;
        images[i] = now.copy();
        imageSeeds[i] = seed;
        gone.clear();
        return 1;
    }

    int goBack(int i) {
        if (i != 0 && i != 1) return UNKNOWN;
        if (images[i] == null) return NOT;
        now = images[i].copy();
        seed = imageSeeds[i];
        gone.clear();
        return 1;
    }
}
