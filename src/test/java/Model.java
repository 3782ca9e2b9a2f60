import java.math.BigInteger;
import java.util.ArrayList;
import java.util.HashMap;
import java.util.List;
import java.util.Map;
import java.util.TreeSet;
import java.util.regex.Matcher;
import java.util.regex.Pattern;

/**
 * The document once more, in its slowest and plainest form: everything by trying
 * all there is. It shares nothing with the class and is what random runs are held against.
 */
public final class Model {
    /** All that an image keeps. */
    private static final class State {
        int[][] storms = new int[6][2];
        List<int[]> things = new ArrayList<>(); // kind, height, cell, up
        List<int[]> parts = new ArrayList<>();  // kind, there
        int charge = 0;
        int summer = 0;
        List<int[]> seen = new ArrayList<>();
        List<int[]> notes = new ArrayList<>();
        List<int[]> marks = new ArrayList<>();
        List<State> undo = new ArrayList<>();

        State copy() {
            State other = new State();
            other.storms = new int[6][];
            for (int y = 0; y < 6; y++) {
                other.storms[y] = storms[y].clone();
            }
            other.things = rows(things);
            other.parts = rows(parts);
            other.charge = charge;
            other.summer = summer;
            other.seen = rows(seen);
            other.notes = rows(notes);
            other.marks = rows(marks);
            other.undo = new ArrayList<>(undo); // what is in it is never changed
            return other;
        }

        private static List<int[]> rows(List<int[]> from) {
            List<int[]> to = new ArrayList<>();
            for (int[] row : from) {
                to.add(row.clone());
            }
            return to;
        }

        int there() {
            int n = 0;
            for (int[] part : parts) {
                n += part[1];
            }
            return n;
        }

        int thereBits() {
            int bits = 0;
            for (int p = 0; p < parts.size(); p++) {
                bits += parts.get(p)[1] << p;
            }
            return bits;
        }

        int draws(int k, int c) {
            int[] thing = things.get(k);
            return draw(thing[0], thing[1], Math.abs(thing[2] - c), summer);
        }

        int struck(int c) {
            int best = -1;
            for (int k = things.size() - 1; k >= 0; k--) {
                if (things.get(k)[3] == 1 && draws(k, c) >= 1 && (best < 0 || draws(k, c) >= draws(best, c))) {
                    best = k;
                }
            }
            return best;
        }

        void pass(int c, int strength) {
            if (strength >= 1 && struck(c) == 0) {
                charge = Math.min(999, charge + strength);
            }
            while (true) {
                int first = 0;
                while (first < parts.size() && parts.get(first)[1] == 1) {
                    first++;
                }
                if (first == parts.size() || charge < need(parts.get(first)[0], there(), summer)) {
                    break;
                }
                charge -= need(parts.get(first)[0], there(), summer);
                parts.get(first)[1] = 1;
            }
            summer++;
        }

        void pass() {
            pass(storms[summer % 6][0], storms[summer % 6][1]);
        }

        void remember() {
            undo.add(copy());
            if (undo.size() > 8) {
                undo.remove(0);
            }
        }
    }

    private State now = new State();
    private final State[] images = new State[2];
    private StringBuilder text = new StringBuilder();
    private BigInteger above = BigInteger.ZERO;
    private BigInteger below = BigInteger.ONE;
    private final int[] status = new int[3];

    static int draw(int kind, int t, int f, int y) {
        switch (kind) {
            case 0: return Math.max(0, t - f);
            case 1: return draw(0, t, f, y) + 5;
            case 2: return draw(0, t, f, y) * 2;
            case 3: return y % 2 == 0 ? draw(2, t, f, y) : 0;
            case 4: return draw(0, t, f, y) + (f <= 1 ? 9 : 0);
            default: return draw(1, t, f, y) + Math.min(y, 5);
        }
    }

    static int need(int kind, int n, int y) {
        switch (kind) {
            case 0: return 4;
            case 1: return need(0, n, y) + 2 * n;
            case 2: return need(0, n, y) - y % 2;
            case 3: return need(1, n, y) / 2;
            case 4: return need(1, n, y) + 6;
            default: return n >= 3 ? 1 : need(2, n, y);
        }
    }

    private int bad() {
        status[0]++;
        return -2;
    }

    private int no() {
        status[1]++;
        return -3;
    }

    private int full() {
        status[2]++;
        return -4;
    }

    private static boolean in(int v, int least, int most) {
        return least <= v && v <= most;
    }

    private boolean isThing(int k) {
        return in(k, 0, now.things.size() - 1);
    }

    private boolean isPart(int p) {
        return in(p, 0, now.parts.size() - 1);
    }

    public int village() {
        int n = now.things.size();
        now = new State();
        return n;
    }

    public int storm(int y, int c, int strength) {
        if (!in(y, 0, 5) || !in(c, 0, 11) || !in(strength, 0, 9)) return bad();
        int had = now.storms[y][1];
        now.storms[y] = new int[] {c, strength};
        now.undo.clear();
        return had;
    }

    public int thing(int kind, int height, int c) {
        if (!in(kind, 0, 5) || !in(height, 1, 30) || !in(c, 0, 11)) return bad();
        if (now.things.size() == 6) return full();
        now.things.add(new int[] {kind, height, c, 1});
        now.undo.clear();
        return now.things.size() - 1;
    }

    public int body(int kind) {
        if (!in(kind, 0, 5)) return bad();
        if (now.parts.size() == 6) return full();
        now.parts.add(new int[] {kind, 0});
        now.undo.clear();
        return now.parts.size() - 1;
    }

    public int type(int c) {
        if (!in(c, 0, 127)) return bad();
        if (text.length() == 150) return full();
        text.append((char) c);
        return text.length();
    }

    public int clear() {
        int n = text.length();
        text = new StringBuilder();
        return n;
    }

    private static final Pattern TOKEN = Pattern.compile(" *([a-z]+|[0-9]+|[^ ]|$)", Pattern.DOTALL);
    private static final Map<String, int[][]> GRAMMAR = new HashMap<>();
    static {
        GRAMMAR.put("village", new int[][] {});
        GRAMMAR.put("storm", new int[][] {{0, 5}, {0, 11}, {0, 9}});
        GRAMMAR.put("thing", new int[][] {{0, 5}, {1, 30}, {0, 11}});
        GRAMMAR.put("part", new int[][] {{0, 5}});
        GRAMMAR.put("take", new int[][] {{0, 5}});
        GRAMMAR.put("summers", new int[][] {{1, 99}});
    }

    public int read() {
        List<String> tokens = new ArrayList<>();
        List<Integer> places = new ArrayList<>();
        Matcher matcher = TOKEN.matcher(text);
        int from = 0;
        while (matcher.find(from)) {
            tokens.add(matcher.group(1));
            places.add(matcher.start(1));
            if (matcher.group(1).isEmpty()) break;
            from = matcher.end();
        }
        Model told = new Model();
        int items = 0;
        int i = 0;
        while (items == 0 || !tokens.get(i).isEmpty()) {
            String word = tokens.get(i);
            boolean may = GRAMMAR.containsKey(word) && word.equals("village") == (items == 0)
                && !(word.equals("thing") && told.now.things.size() == 6)
                && !(word.equals("part") && told.now.parts.size() == 6);
            if (!may) return -10 - places.get(i);
            i++;
            List<Integer> args = new ArrayList<>();
            for (int[] range : GRAMMAR.get(word)) {
                if (!tokens.get(i).matches("[0-9]{1,2}")) return -10 - places.get(i);
                int n = Integer.parseInt(tokens.get(i));
                if (!in(n, range[0], range[1])) return -10 - places.get(i);
                if (word.equals("take") && n >= told.now.things.size()) return -10 - places.get(i);
                args.add(n);
                i++;
            }
            if (!tokens.get(i).equals(";")) return -10 - places.get(i);
            i++;
            items++;
            told.item(word, args);
        }
        told.now.undo.clear();
        now = told.now;
        return items;
    }

    private void item(String word, List<Integer> args) {
        switch (word) {
            case "storm": storm(args.get(0), args.get(1), args.get(2)); break;
            case "thing": thing(args.get(0), args.get(1), args.get(2)); break;
            case "part": body(args.get(0)); break;
            case "take": takes(args.get(0)); break;
            case "summers":
                for (int j = 0; j < args.get(0); j++) summers(1);
                break;
            default: break;
        }
    }

    public int summers(int n) {
        if (!in(n, 1, 60)) return bad();
        now.remember();
        for (int j = 0; j < n; j++) {
            if (now.summer < 999) now.pass();
        }
        return now.there();
    }

    public int takes(int k) {
        if (!isThing(k)) return bad();
        now.remember();
        now.things.get(k)[3] = 1 - now.things.get(k)[3];
        return now.things.get(k)[3];
    }

    public int undo() {
        if (now.undo.isEmpty()) return no();
        State then = now.undo.remove(now.undo.size() - 1);
        for (int k = 0; k < now.things.size(); k++) now.things.get(k)[3] = then.things.get(k)[3];
        for (int p = 0; p < now.parts.size(); p++) now.parts.get(p)[1] = then.parts.get(p)[1];
        now.charge = then.charge;
        now.summer = then.summer;
        return now.summer;
    }

    public int of(int k, int what) {
        return isThing(k) && in(what, 0, 3) ? now.things.get(k)[what] : bad();
    }

    public int about(int p, int what) {
        if (!isPart(p) || !in(what, 0, 2)) return bad();
        return what < 2 ? now.parts.get(p)[what] : need(now.parts.get(p)[0], now.there(), now.summer);
    }

    public int weather(int y, int what) {
        return in(y, 0, 5) && in(what, 0, 1) ? now.storms[y][what] : bad();
    }

    public int draws(int k, int c) {
        return isThing(k) && in(c, 0, 11) ? now.draws(k, c) : bad();
    }

    public int struck(int c) {
        return in(c, 0, 11) ? now.struck(c) : bad();
    }

    public int then(int m) {
        if (!in(m, 0, 60)) return bad();
        State later = now.copy();
        for (int j = 0; j < m; j++) later.pass();
        return later.thereBits();
    }

    public int when(int p) {
        if (!isPart(p)) return bad();
        return whenOf(p);
    }

    private int whenOf(int p) {
        State later = now.copy();
        for (int j = 0; j <= 60; j++) {
            if (later.parts.get(p)[1] == 1) return j;
            later.pass();
        }
        return -1;
    }

    public int whence() {
        int bits = 0;
        for (int c = 0; c < 12; c++) {
            if (now.struck(c) == 0) bits |= 1 << c;
        }
        return bits;
    }

    /** Sets of things, the fewest first, of like ones the least. */
    private static TreeSet<Integer> sets(int things) {
        TreeSet<Integer> sets = new TreeSet<>((a, b) -> Integer.bitCount(a) != Integer.bitCount(b)
            ? Integer.compare(Integer.bitCount(a), Integer.bitCount(b)) : Integer.compare(a, b));
        for (int set = 0; set < 1 << things; set++) sets.add(set);
        return sets;
    }

    private State with(int upBits) {
        State other = now.copy();
        for (int k = 0; k < other.things.size(); k++) other.things.get(k)[3] = upBits >> k & 1;
        return other;
    }

    private int upBits() {
        int bits = 0;
        for (int k = 0; k < now.things.size(); k++) bits |= now.things.get(k)[3] << k;
        return bits;
    }

    public int lead(int c) {
        if (!in(c, 0, 11)) return bad();
        for (int set : sets(now.things.size())) {
            boolean may = (set & 1) == 0 && (set & ~upBits()) == 0;
            if (may && with(upBits() & ~set).struck(c) == 0) return set;
        }
        return -1;
    }

    public int spare() {
        if (now.things.isEmpty()) return 0;
        for (int set : sets(now.things.size())) {
            if ((set & 1) == 1) continue;
            State other = with(set | upBits() & 1);
            boolean spared = true;
            for (int c = 0; c < 12; c++) spared &= other.struck(c) != 0;
            if (spared) return set;
        }
        return -1;
    }

    public int order(int c, int k) {
        if (!in(c, 0, 99) || k < -1) {
            bad();
            return -10;
        }
        List<Integer> missing = new ArrayList<>();
        for (int p = 0; p < now.parts.size(); p++) {
            if (now.parts.get(p)[1] == 0) missing.add(p);
        }
        List<List<Integer>> orders = new ArrayList<>();
        permute(missing, new ArrayList<>(), orders);
        int most = -1;
        List<Integer> first = null;
        for (List<Integer> order : orders) {
            int left = c;
            int n = now.there();
            int come = 0;
            for (int p : order) {
                int need = need(now.parts.get(p)[0], n, now.summer);
                if (left < need) break;
                left -= need;
                n++;
                come++;
            }
            if (come > most) {
                most = come;
                first = order;
            }
        }
        if (k == -1) return most;
        return k < first.size() ? first.get(k) : -5;
    }

    private static void permute(List<Integer> from, List<Integer> head, List<List<Integer>> orders) {
        if (head.size() == from.size()) orders.add(new ArrayList<>(head));
        for (int p : from) {
            if (head.contains(p)) continue;
            head.add(p);
            permute(from, head, orders);
            head.remove(head.size() - 1);
        }
    }

    public int seen(int c, int k) {
        if (!in(c, 0, 11) || !in(k, -1, now.things.size() - 1)) return bad();
        if (now.seen.size() == 5) return full();
        now.seen.add(new int[] {c, k});
        return now.seen.size();
    }

    public int tall(int k, int what) {
        if (!isThing(k) || !in(what, 0, 2)) return bad();
        TreeSet<Integer> heights = new TreeSet<>();
        for (int t = 1; t <= 30; t++) {
            State other = now.copy();
            other.things.get(k)[1] = t;
            boolean so = true;
            for (int[] one : now.seen) so &= other.struck(one[0]) == one[1];
            if (so) heights.add(t);
        }
        if (what == 0) return heights.size();
        if (heights.isEmpty()) return -1;
        return what == 1 ? heights.first() : heights.last();
    }

    public int note(int k, int t, int f, int y, int x) {
        if (!isThing(k) || !in(t, 1, 30) || !in(f, 0, 11) || !in(y, 0, 99) || !in(x, 0, 99)) return bad();
        if (now.notes.size() == 6) return full();
        now.notes.add(new int[] {k, t, f, y, x});
        return now.notes.size();
    }

    public int mark(int p, int n, int y, int x) {
        if (!isPart(p) || !in(n, 0, 5) || !in(y, 0, 99) || !in(x, 0, 99)) return bad();
        if (now.marks.size() == 6) return full();
        now.marks.add(new int[] {p, n, y, x});
        return now.marks.size();
    }

    public int forget(int what) {
        if (!in(what, 0, 2)) return bad();
        List<int[]> list = what == 0 ? now.seen : what == 1 ? now.notes : now.marks;
        int n = list.size();
        list.clear();
        return n;
    }

    public int is(int k) {
        if (!isThing(k)) return bad();
        int bits = 0;
        for (int kind = 0; kind < 6; kind++) {
            boolean so = true;
            for (int[] one : now.notes) so &= one[0] != k || draw(kind, one[1], one[2], one[3]) == one[4];
            if (so) bits |= 1 << kind;
        }
        return bits;
    }

    public int look(int k) {
        if (!isThing(k)) return bad();
        int kinds = is(k);
        int best = -1;
        int fewest = 99;
        for (int f = 0; f < 12; f++) {
            for (int y = 0; y < 10; y++) {
                Map<Integer, Integer> groups = new HashMap<>();
                for (int kind = 0; kind < 6; kind++) {
                    if ((kinds >> kind & 1) == 1) groups.merge(draw(kind, now.things.get(k)[1], f, y), 1, Integer::sum);
                }
                int most = groups.values().stream().mapToInt(v -> v).max().orElse(0);
                if (most > 0 && most < fewest) {
                    fewest = most;
                    best = 100 * f + y;
                }
            }
        }
        return best;
    }

    public int kinds(int p) {
        if (!isPart(p)) return bad();
        int bits = 0;
        for (int kind = 0; kind < 6; kind++) {
            boolean so = true;
            for (int[] one : now.marks) so &= one[0] != p || need(kind, one[1], one[2]) == one[3];
            if (so) bits |= 1 << kind;
        }
        return bits;
    }

    public int ask(int p) {
        if (!isPart(p)) return bad();
        int kinds = kinds(p);
        int best = -1;
        int fewest = 99;
        for (int n = 0; n < 6; n++) {
            for (int y = 0; y < 2; y++) {
                Map<Integer, Integer> groups = new HashMap<>();
                for (int kind = 0; kind < 6; kind++) {
                    if ((kinds >> kind & 1) == 1) groups.merge(need(kind, n, y), 1, Integer::sum);
                }
                int most = groups.values().stream().mapToInt(v -> v).max().orElse(0);
                if (most > 0 && most < fewest) {
                    fewest = most;
                    best = 10 * n + y;
                }
            }
        }
        return best;
    }

    private static int gain(int mine, int other, int when) {
        int a = Math.abs(mine - when);
        int b = Math.abs(other - when);
        return a < b ? 12 - a : a == b ? 6 : 0;
    }

    public int sweep(int p, int k) {
        if (!isPart(p) || k < -1) {
            bad();
            return -10;
        }
        int when = whenOf(p) == -1 ? 10 : Math.min(10, whenOf(p));
        List<Integer> rest = new ArrayList<>();
        for (int i = 0; i < 10; i++) {
            for (int j = 0; j < 10; j++) {
                boolean so = true;
                for (int b = 0; b < 10; b++) {
                    so &= gain(b, j, when) <= gain(i, j, when) && gain(b, i, when) <= gain(j, i, when);
                }
                if (so) rest.add(10 * i + j);
            }
        }
        if (k == -1) return rest.size();
        return k < rest.size() ? rest.get(k) : -5;
    }

    public int falls(int cell, int c) {
        if (!in(cell, 0, 11) || !in(c, 0, 10)) return bad();
        int n = now.things.size();
        BigInteger sum = BigInteger.ZERO;
        for (int set = 0; set < 1 << n; set++) {
            if ((set & ~upBits()) != 0 || with(set).struck(cell) != 0) continue;
            BigInteger odds = BigInteger.ONE;
            for (int k = 0; k < n; k++) {
                if ((upBits() >> k & 1) == 1) {
                    odds = odds.multiply(BigInteger.valueOf((set >> k & 1) == 1 ? 10 - c : c));
                }
            }
            sum = sum.add(odds);
        }
        BigInteger all = BigInteger.TEN.pow(Integer.bitCount(upBits()));
        BigInteger common = sum.gcd(all);
        above = sum.divide(common);
        below = all.divide(common);
        return 1;
    }

    public int septembers(int seed, int n) {
        if (!in(seed, 0, 999999) || !in(n, 0, 60)) return bad();
        State later = now.copy();
        BigInteger x = BigInteger.valueOf(seed);
        for (int j = 0; j < n; j++) {
            x = x.multiply(BigInteger.valueOf(1103515245)).add(BigInteger.valueOf(12345)).mod(BigInteger.ONE.shiftLeft(31));
            later.pass(x.shiftRight(16).intValue() % 12, x.shiftRight(20).intValue() % 10);
        }
        return later.there();
    }

    public long part(int what) {
        if (!in(what, 0, 1)) return bad();
        return (what == 0 ? above : below).longValueExact();
    }

    public int image(int i) {
        if (!in(i, 0, 1)) return bad();
        images[i] = now.copy();
        return 1;
    }

    public int from(int i) {
        if (!in(i, 0, 1)) return bad();
        if (images[i] == null) return no();
        now = images[i].copy();
        return 1;
    }

    public int status(int what) {
        if (in(what, 0, 2)) return status[what];
        bad();
        return -1;
    }

    public int count(int what) {
        int up = Integer.bitCount(upBits());
        int[] all = {now.things.size(), up, now.parts.size(), now.there(), now.summer, now.charge, now.seen.size(),
            now.notes.size(), now.marks.size(), now.undo.size(), text.length()};
        return in(what, 0, 10) ? all[what] : bad();
    }

    public long digest() {
        List<Long> values = new ArrayList<>();
        for (int what = 0; what < 11; what++) values.add((long) count(what));
        List<int[]> rows = new ArrayList<>();
        for (int[] row : now.storms) rows.add(row);
        rows.addAll(now.things);
        rows.addAll(now.parts);
        rows.addAll(now.seen);
        rows.addAll(now.notes);
        rows.addAll(now.marks);
        for (int[] row : rows) {
            for (int value : row) values.add((long) value);
        }
        values.add(above.longValueExact());
        values.add(below.longValueExact());
        long h = 1621;
        for (long v : values) h = 31 * h + v;
        return h;
    }

    /** For random runs: how many there are, so that arguments can be chosen among them. */
    int things() {
        return now.things.size();
    }

    int parts() {
        return now.parts.size();
    }
}
