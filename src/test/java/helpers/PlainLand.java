import java.util.ArrayList;
import java.util.Comparator;
import java.util.List;
import java.util.TreeMap;
import java.util.function.Consumer;
import java.util.function.IntPredicate;
import java.util.function.ToIntFunction;
import java.util.regex.Matcher;
import java.util.regex.Pattern;

/**
 * The document once more, written apart from the class and as near to its words
 * as can be, for ModelTest to hold the class against.
 */
final class PlainLand {
    static final int BEYOND = -1000000001, FULL = -1000000002, KIND = -1000000003, NONE = -1000000004;
    static final int STATE = -1000000005, MISSING = -1000000006, SIZE = -1000000007;

    static final class Mount {
        int kind, cell, haste, steps, waits;

        Mount(int kind, int cell, int haste) {
            this.kind = kind;
            this.cell = cell;
            this.haste = haste;
        }
    }

    /** All of section 1. */
    static final class World {
        int season;
        List<Mount> mounts = new ArrayList<>();
        TreeMap<Integer, int[]> passes = new TreeMap<>();
        List<Integer> villages = new ArrayList<>();
        int[] weights = new int[4];

        World twin() {
            World w = new World();
            w.season = season;
            for (Mount m : mounts) {
                Mount c = new Mount(m.kind, m.cell, m.haste);
                c.steps = m.steps;
                c.waits = m.waits;
                w.mounts.add(c);
            }
            passes.forEach((cell, p) -> w.passes.put(cell, p.clone()));
            w.villages.addAll(villages);
            w.weights = weights.clone();
            return w;
        }

        boolean open(int cell) {
            int[] p = passes.get(cell);
            return p == null || season % p[0] < p[1];
        }

        int who(int cell) {
            for (Mount m : mounts) {
                if (m.cell == cell) {
                    return mounts.indexOf(m);
                }
            }
            return -1;
        }

        int stride(Mount m, int kind) {
            switch (kind) {
                case 0: return 2 + m.haste / 3;
                case 1: return stride(m, 0) + 1;
                case 2: return stride(m, 0) / 2;
                case 3: return season % 4 < 2 ? stride(m, 0) : 0;
                case 4: return Math.max(0, stride(m, 1) - 2);
                default: return stride(m, 2) + (int) mounts.stream().filter(o -> o != m && o.kind == 5).count();
            }
        }

        int value(Mount m) {
            return mounts.indexOf(m) * weights[0] + m.haste * weights[1] + m.steps * weights[2] + m.cell * weights[3];
        }

        List<Mount> ordered() {
            List<Mount> order = new ArrayList<>(mounts);
            order.sort(Comparator.comparingInt((Mount m) -> value(m)).thenComparingInt(mounts::indexOf));
            return order;
        }

        World go(int n) {
            for (int i = 0; i < n; i++) {
                for (Mount m : ordered()) {
                    int left = stride(m, m.kind);
                    while (left > 0 && open((m.cell + 1) % 24) && who((m.cell + 1) % 24) < 0) {
                        m.cell = (m.cell + 1) % 24;
                        m.steps++;
                        left--;
                    }
                    m.waits += left > 0 ? 1 : 0;
                }
                season++;
            }
            return this;
        }

        World on(int n) {
            return twin().go(n);
        }

        boolean lit(int village) {
            return who(villages.get(village)) < 0 && who((villages.get(village) + 1) % 24) < 0;
        }

        int steps() {
            return mounts.stream().mapToInt(m -> m.steps).sum();
        }

        int standing() {
            World then = on(80);
            int set = 0;
            for (int i = 0; i < mounts.size(); i++) {
                set += then.mounts.get(i).steps == mounts.get(i).steps ? 1 << i : 0;
            }
            return set;
        }

        World with(Consumer<World> change) {
            World w = twin();
            change.accept(w);
            return w;
        }
    }

    private World w = new World();
    private World kept;
    private final List<Integer> tape = new ArrayList<>();
    private final long[][] sheets = new long[4][];
    private final int[] bits = new int[4];
    private final int[] found = new int[7];

    private int find(int finding) {
        found[BEYOND - finding]++;
        return finding;
    }

    private static boolean in(long v, long least, long most) {
        return least <= v && v <= most;
    }

    private boolean is(int range) {
        return in(range, 0, w.mounts.size() - 1);
    }

    private static int set(int n, IntPredicate is) {
        int set = 0;
        for (int i = 0; i < n; i++) {
            set += is.test(i) ? 1 << i : 0;
        }
        return set;
    }

    /** The least of least to most for which the measure is most. */
    private static int most(int least, int most, ToIntFunction<Integer> measure) {
        int best = least;
        for (int i = least; i <= most; i++) {
            best = measure.applyAsInt(i) > measure.applyAsInt(best) ? i : best;
        }
        return best;
    }

    int pass(int cell, int period, int open) {
        if (!in(cell, 0, 23) || period != 0 && !(in(period, 2, 9) && in(open, 0, period))) return find(BEYOND);
        int was = w.passes.remove(cell) != null ? 1 : 0;
        if (period != 0) w.passes.put(cell, new int[] {period, open});
        return was;
    }

    int cell(int cell, int what) {
        if (!in(cell, 0, 23) || !in(what, 0, 3)) return find(BEYOND);
        int[] p = w.passes.getOrDefault(cell, new int[2]);
        return what < 2 ? p[what] : what == 3 ? w.who(cell) : w.open(cell) ? 1 : 0;
    }

    int village(int cell) {
        if (!in(cell, 0, 23)) return find(BEYOND);
        if (w.villages.size() == 6) return find(FULL);
        w.villages.add(cell);
        return w.villages.size() - 1;
    }

    int villageOf(int village, int what) {
        if (!in(village, 0, w.villages.size() - 1) || !in(what, 0, 1)) return find(BEYOND);
        return what == 0 ? w.villages.get(village) : w.lit(village) ? 1 : 0;
    }

    int order(int what, int v) {
        if (!in(what, 0, 3) || !in(v, -9, 9)) return find(BEYOND);
        int was = w.weights[what];
        w.weights[what] = v;
        return was;
    }

    int range(int kind, int cell) {
        if (!in(kind, 0, 5) || !in(cell, 0, 23)) return find(BEYOND);
        if (w.who(cell) >= 0) return find(STATE);
        if (w.mounts.size() == 8) return find(FULL);
        w.mounts.add(new Mount(kind, cell, 0));
        return w.mounts.size() - 1;
    }

    int of(int range, int what) {
        if (!is(range) || !in(what, 0, 7)) return find(BEYOND);
        Mount m = w.mounts.get(range);
        int place = w.ordered().indexOf(m);
        int before = place == 0 ? -1 : w.mounts.indexOf(w.ordered().get(place - 1));
        return new int[] {m.kind, m.cell, m.haste, m.steps, m.waits, w.stride(m, m.kind), w.value(m), before}[what];
    }

    int set(int range, int what, int v) {
        if (!is(range) || !(what == 1 && in(v, 0, 23) || what == 2 && in(v, 0, 9))) return find(BEYOND);
        Mount m = w.mounts.get(range);
        int was = what == 1 ? m.cell : m.haste;
        if (what == 1 && w.who(v) >= 0 && w.who(v) != range) return find(STATE);
        if (what == 1) m.cell = v;
        else m.haste = v;
        return was;
    }

    int turn(int range, int kind) {
        if (!is(range) || !in(kind, 0, 5)) return find(BEYOND);
        int was = w.mounts.get(range).kind;
        w.mounts.get(range).kind = kind;
        return was;
    }

    int as(int range, int kind) {
        if (!is(range) || !in(kind, 0, 5)) return find(BEYOND);
        Mount m = w.mounts.get(range);
        boolean so = kind == 0 || m.kind == kind || m.kind == 4 && kind == 1 || m.kind == 5 && kind == 2;
        return so ? m.haste : find(KIND);
    }

    int level(int range) {
        if (!is(range)) return find(BEYOND);
        return w.mounts.remove(range).steps;
    }

    int seasons(int n) {
        if (!in(n, 1, 80)) return find(BEYOND);
        if (w.season + n > 9999) return find(STATE);
        return w.go(n).steps();
    }

    int now(int what) {
        switch (what) {
            case 0: return w.season;
            case 1: return w.steps();
            case 2: return w.mounts.stream().mapToInt(m -> m.waits).sum();
            case 3: return set(24, c -> w.who(c) >= 0);
            case 4: return set(24, c -> w.passes.containsKey(c) && w.open(c));
            case 5: return set(w.villages.size(), w::lit);
            case 6: return w.season % 4 < 2 ? 1 : 0;
            default: return find(BEYOND);
        }
    }

    int on(int range, int n, int what) {
        if (!is(range) || !in(n, 0, 80) || !in(what, 0, 2)) return find(BEYOND);
        Mount m = w.on(n).mounts.get(range);
        return what == 0 ? m.cell : what == 1 ? m.steps : m.waits;
    }

    int when(int range, int cell) {
        if (!is(range) || !in(cell, 0, 23)) return find(BEYOND);
        World then = w.twin();
        for (int n = 0; n <= 80; n++, then.go(1)) {
            if (then.mounts.get(range).cell == cell) return n;
        }
        return find(NONE);
    }

    int lit(int village) {
        if (!in(village, 0, w.villages.size() - 1)) return find(BEYOND);
        World then = w.twin();
        for (int n = 0; n <= 80; n++, then.go(1)) {
            if (then.lit(village)) return n;
        }
        return find(NONE);
    }

    int sun(int village, int n) {
        if (!in(village, 0, w.villages.size() - 1) || !in(n, 0, 80)) return find(BEYOND);
        World then = w.twin();
        int lit = 0;
        for (int i = 1; i <= n; i++) {
            lit += then.go(1).lit(village) ? 1 : 0;
        }
        return lit;
    }

    int stands() {
        return w.standing();
    }

    private int aheadOf(int range) {
        int next = (w.mounts.get(range).cell + 1) % 24;
        return w.open(next) ? w.who(next) : -1;
    }

    int ahead(int range) {
        return is(range) ? aheadOf(range) : find(BEYOND);
    }

    int file(int range) {
        if (!is(range)) return find(BEYOND);
        int next = aheadOf(range);
        return 1 << range | (next < 0 ? 0 : file(next));
    }

    int frees() {
        int as = Integer.bitCount(w.standing());
        if (as == 0) return find(NONE);
        ToIntFunction<Integer> fewer = r -> as - Integer.bitCount(w.with(t -> t.mounts.remove((int) r)).standing());
        int best = most(0, w.mounts.size() - 1, fewer);
        return fewer.applyAsInt(best) > 0 ? best : find(NONE);
    }

    private int gone(World changed, int range, int n) {
        return changed.go(n).mounts.get(range).steps - w.mounts.get(range).steps;
    }

    int haste(int range, int d, int n) {
        if (!is(range) || !in(d, 0, 999) || !in(n, 0, 40)) return find(BEYOND);
        for (int h = 0; h <= 9; h++) {
            int haste = h;
            if (gone(w.with(t -> t.mounts.get(range).haste = haste), range, n) >= d) return h;
        }
        return find(NONE);
    }

    int best(int what, int n) {
        if (!in(what, 0, 3) || !in(n, 0, 40)) return find(BEYOND);
        return most(-9, 9, v -> w.with(t -> t.weights[what] = v).go(n).steps());
    }

    int start(int range, int n) {
        if (!is(range) || !in(n, 0, 40)) return find(BEYOND);
        return most(0, 23, c -> w.who(c) >= 0 && w.who(c) != range ? -1
            : gone(w.with(t -> t.mounts.get(range).cell = c), range, n));
    }

    int kind(int range, int n) {
        if (!is(range) || !in(n, 0, 40)) return find(BEYOND);
        return most(0, 5, k -> gone(w.with(t -> t.mounts.get(range).kind = k), range, n));
    }

    private int afterSwap(int pair, int n) {
        World t = w.twin();
        Mount one = t.mounts.get(pair / 10);
        Mount other = t.mounts.get(pair % 10);
        int cell = one.cell;
        one.cell = other.cell;
        other.cell = cell;
        return t.go(n).steps();
    }

    int swap(int n) {
        if (!in(n, 0, 40)) return find(BEYOND);
        int size = w.mounts.size();
        int best = most(0, 77, p -> p / 10 < p % 10 && p % 10 < size ? afterSwap(p, n) : -1);
        boolean more = size > 1 && best > 0 && afterSwap(best, n) > w.on(n).steps();
        return more ? best : find(NONE);
    }

    private static int walk(World from, int start, int to) {
        World then = from.twin();
        int at = start;
        for (int n = 0; n <= 80; n++, then.go(1)) {
            if (at == to) return n;
            int next = (at + 1) % 24;
            at = then.open(next) && then.who(next) < 0 ? next : at;
        }
        return 999;
    }

    int journey(int from, int to) {
        if (!in(from, 0, 23) || !in(to, 0, 23)) return find(BEYOND);
        int length = walk(w, from, to);
        return length > 80 ? find(NONE) : length;
    }

    int sets(int from, int to) {
        if (!in(from, 0, 23) || !in(to, 0, 23)) return find(BEYOND);
        int best = most(0, 20, n -> -walk(w.on(n), from, to));
        return walk(w.on(best), from, to) > 80 ? find(NONE) : best;
    }

    int feed(int bytes, int n) {
        if (!in(n, 1, 4)) return find(BEYOND);
        if (tape.size() + n > 120) return find(FULL);
        byte[] all = {(byte) (bytes >>> 24), (byte) (bytes >>> 16), (byte) (bytes >>> 8), (byte) bytes};
        for (int i = 4 - n; i < 4; i++) {
            tape.add(all[i] & 255);
        }
        return tape.size();
    }

    int wipe() {
        int had = tape.size();
        tape.clear();
        return had;
    }

    /** Tokens by a pattern; a fault comes up as an exception of its own. */
    private static final class Text {
        private static final Pattern TOKEN = Pattern.compile(" *([a-z]+|[0-9]+|.|$)", Pattern.DOTALL);
        private final Matcher matcher;
        private String token;

        Text(String text) {
            matcher = TOKEN.matcher(text);
            next();
        }

        String next() {
            String was = token;
            // At the end the empty token is found again and again.
            if (token == null || !token.isEmpty()) {
                matcher.find();
                token = matcher.group(1);
            }
            return was;
        }

        void need(boolean so) {
            if (!so) throw new IllegalStateException(Integer.toString(matcher.start(1)));
        }

        boolean skip(String word) {
            boolean so = token.equals(word);
            if (so) next();
            return so;
        }

        int number(int least, int most) {
            need(token.matches("[0-9]+"));
            need(new java.math.BigInteger(token).bitLength() < 31);
            need(in(Integer.parseInt(token), least, most));
            return Integer.parseInt(next());
        }

        void item(World t) {
            int kind = List.of("range", "hill", "peak", "glacier", "moor", "twin").indexOf(token);
            if (kind >= 0) {
                need(t.mounts.size() < 8);
                next();
                need(skip("at"));
                need(!token.matches("[0-9]{1,9}") || t.who(Integer.parseInt(token)) < 0);
                int cell = number(0, 23);
                t.mounts.add(new Mount(kind, cell, skip("haste") ? number(0, 9) : 0));
            } else if (skip("pass")) {
                int cell = number(0, 23);
                int period = number(2, 9);
                t.passes.put(cell, new int[] {period, number(0, period)});
            } else if (skip("free")) {
                t.passes.remove(number(0, 23));
            } else if (token.equals("village")) {
                need(t.villages.size() < 6);
                next();
                t.villages.add(number(0, 23));
            } else if (skip("order")) {
                int what = number(0, 3);
                t.weights[what] = skip("less") ? -number(0, 9) : number(0, 9);
            } else {
                need(false);
            }
        }

        int items(World t) {
            int items = 0;
            do {
                item(t);
                items++;
            } while (skip(";"));
            need(token.isEmpty());
            return items;
        }
    }

    int land() {
        StringBuilder text = new StringBuilder();
        tape.forEach(b -> text.append((char) (int) b));
        tape.clear();
        World told = w.twin();
        try {
            int items = new Text(text.toString()).items(told);
            w = told;
            return items;
        } catch (IllegalStateException fault) {
            return -1 - Integer.parseInt(fault.getMessage());
        }
    }

    int sheet(int s, int b, int n) {
        if (!in(s, 0, 3) || !List.of(0, 8, 16, 64).contains(b)) return find(BEYOND);
        if (n < 0) return find(SIZE);
        if (n > 40) return find(BEYOND);
        sheets[s] = b == 0 ? null : new long[n];
        bits[s] = b;
        return b == 0 ? 0 : n;
    }

    long write(int s, int i, long v) {
        if (!in(s, 0, 3)) return find(BEYOND);
        if (sheets[s] == null) return find(MISSING);
        if (!in(i, 0, sheets[s].length - 1)) return find(BEYOND);
        long was = sheets[s][i];
        sheets[s][i] = v << 64 - bits[s] >> 64 - bits[s];
        return was;
    }

    int copy(int s, int from, int t, int to, int n) {
        if (!in(s, 0, 3) || !in(t, 0, 3)) return find(BEYOND);
        if (sheets[s] == null || sheets[t] == null) return find(MISSING);
        if (bits[s] != bits[t]) return find(KIND);
        if (from < 0 || to < 0 || n < 0) return find(BEYOND);
        if ((long) from + n > sheets[s].length || (long) to + n > sheets[t].length) return find(BEYOND);
        long[] were = sheets[s].clone();
        for (int i = 0; i < n; i++) {
            sheets[t][to + i] = were[from + i];
        }
        return n;
    }

    int lays(int s) {
        if (!in(s, 0, 3)) return find(BEYOND);
        if (sheets[s] == null) return find(MISSING);
        int came = 0;
        for (int i = 0; i < sheets[s].length; i++) {
            if (is(i) && in(sheets[s][i], 0, 9)) {
                w.mounts.get(i).haste = (int) sheets[s][i];
                came++;
            }
        }
        return came;
    }

    int book(int s, int range) {
        if (!in(s, 0, 3)) return find(BEYOND);
        if (sheets[s] == null) return find(MISSING);
        if (!is(range)) return find(BEYOND);
        for (int i = 0; i < sheets[s].length; i++) {
            sheets[s][i] = w.on(i).mounts.get(range).cell;
        }
        return sheets[s].length;
    }

    int read(int s, int range) {
        if (!in(s, 0, 3)) return find(BEYOND);
        if (sheets[s] == null) return find(MISSING);
        if (!is(range)) return find(BEYOND);
        int pairs = 0;
        for (int pair = 0; pair < 190; pair++) {
            World then = w.twin();
            then.mounts.get(range).haste = pair / 19;
            then.weights[0] = pair % 19 - 9;
            boolean so = true;
            for (int i = 0; so && i < sheets[s].length; i++, then.go(1)) {
                so = sheets[s][i] == then.mounts.get(range).cell;
            }
            pairs += so ? 1 : 0;
        }
        return pairs;
    }

    int image() {
        kept = w.twin();
        return 1;
    }

    int undo() {
        if (kept == null) return find(NONE);
        w = kept.twin();
        return w.mounts.size();
    }

    int tear() {
        int was = kept == null ? 0 : 1;
        kept = null;
        return was;
    }

    int count(int what) {
        switch (what) {
            case 0: return w.mounts.size();
            case 1: return w.villages.size();
            case 2: return tape.size();
            case 3: return w.passes.size();
            case 4: return w.mounts.stream().mapToInt(m -> m.haste).sum();
            default: return find(BEYOND);
        }
    }

    int status(int which) {
        if (!in(which, -1, 6)) return find(BEYOND);
        int all = 0;
        for (int f : found) {
            all += f;
        }
        return which < 0 ? all : found[which];
    }
}
