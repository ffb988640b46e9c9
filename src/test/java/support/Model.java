import java.util.ArrayList;
import java.util.Arrays;
import java.util.BitSet;
import java.util.HashMap;
import java.util.HashSet;
import java.util.List;
import java.util.Map;
import java.util.Set;

/**
 * The document once more, in the slowest and plainest way: rows are arrays, all is tried out.
 * What would take too long to try out is answered by UNKNOWN and not compared.
 */
final class Model {
    static final long UNKNOWN = Long.MIN_VALUE;

    private record State(int[] row, int beats) { }

    private record Sight(int beat, int man, int move, int told, int[] untold) { }

    private byte[] tape = new byte[0];
    private Text d;
    private final List<int[]> tables = new ArrayList<>();
    private int fault = 0;
    private int place = -1;
    private int[] row = new int[0];
    private int beats = 0;
    private final List<State> done = new ArrayList<>();
    private final List<State> undone = new ArrayList<>();
    private List<Integer> lies = new ArrayList<>();
    private final List<Sight> sights = new ArrayList<>();
    private int unsure = 0;
    private int time = 0;
    private final State[] boxes = new State[3];

    Model() {
        try {
            d = new Text(tape);
        } catch (Text.Fault f) {
            throw new IllegalStateException(f);
        }
    }

    long call(String name, int... a) {
        switch (name) {
            case "feed": return feed(a);
            case "end": return end(a[0]);
            case "drill": return drill();
            case "fault": return a[0] == 0 ? fault : a[0] == 1 ? place : -1;
            case "does": return man(a[0]) ? row[a[0]] : -1;
            case "made": return made(a);
            case "run": return run(a[0]);
            case "order": return order(a[0], a[1]);
            case "undo": return undo();
            case "redo": return redo();
            case "worth": return Arrays.stream(row).map(m -> d.worths[m]).sum();
            case "round": return round(a[0]);
            case "before": return before();
            case "orphan": return orphan(a[0]);
            case "one": return rule(a[0]) ? one(a[0]) : -1;
            case "keeps": return rule(a[0]) ? keeps(a[0]) : -1;
            case "spread": return spread(a[0], a[1], a[2]);
            case "glint": return glint(a[0], a[1], a[2]);
            case "cracks": return cracks(a[0], a[1], a[2]);
            case "lies": return a[0] >= 0 && a[0] < lies.size() ? lies.get(a[0]) : -1;
            case "sight": return sight(a[0], a[1], a[2]);
            case "untell": return untell(a[0]);
            case "later": return later(a[0]);
            case "unsure": return unsure(a[0]);
            case "fits": return fitting(a[0]).size();
            case "sure": return sure(a[0], a[1]);
            case "wrong": return wrong(a[0], a[1]);
            case "image": return image(a[0]);
            case "back": return back(a[0]);
            case "about": return about(a[0]);
            default: throw new IllegalStateException(name);
        }
    }

    int men() {
        return d.men;
    }

    int moves() {
        return d.moves;
    }

    /** What a man did behind so many beats from the beginning. */
    int did(int beat, int man) {
        return man(man) && beat >= 0 && beat <= 30 ? beats(d.first, beat)[man] : 0;
    }

    private boolean man(int m) {
        return m >= 0 && m < d.men;
    }

    private boolean move(int m) {
        return m >= 0 && m < d.moves;
    }

    private boolean rule(int r) {
        return r >= 0 && r < d.rules.size();
    }

    private long feed(int[] a) {
        if (tape.length + 20 > 1600) {
            return -1;
        }
        int from = tape.length;
        tape = Arrays.copyOf(tape, from + 20);
        for (int i = 0; i < 20; i++) {
            tape[from + i] = (byte) (a[i / 4] >> (24 - 8 * (i % 4)));
        }
        return tape.length;
    }

    private long end(int n) {
        if (n < 0 || n > tape.length) {
            return -1;
        }
        tape = Arrays.copyOf(tape, n);
        return n;
    }

    private long drill() {
        try {
            d = new Text(tape);
        } catch (Text.Fault f) {
            fault = f.kind;
            place = f.place;
            return -1;
        }
        tables.clear();
        for (int rule = 0; rule < d.rules.size(); rule++) {
            tables.add(table(rule));
        }
        fault = 0;
        place = -1;
        tape = new byte[0];
        row = d.first.clone();
        beats = 0;
        done.clear();
        undone.clear();
        sights.clear();
        unsure = 0;
        lies = new ArrayList<>();
        Arrays.fill(boxes, null);
        return d.men;
    }

    private int makes(int rule, int left, int own, int right) {
        return tables.get(rule)[(left * d.moves + own) * d.moves + right];
    }

    private long made(int[] a) {
        return rule(a[0]) && move(a[1]) && move(a[2]) && move(a[3]) ? makes(a[0], a[1], a[2], a[3]) : -1;
    }

    private int[] beat(int[] r) {
        return beat(r, new boolean[d.men], d.window);
    }

    private int[] beat(int[] r, boolean[] alsoCracked, int[] window) {
        int n = d.men;
        int[] next = new int[n];
        for (int i = 0; i < n; i++) {
            int left = i > 0 ? r[i - 1] : d.ring ? r[n - 1] : d.edge;
            int right = i < n - 1 ? r[i + 1] : d.ring ? r[0] : d.edge;
            if (window[i] >= 0) {
                left = window[i];
                right = window[i];
            }
            if (d.turned[i]) {
                int kept = left;
                left = right;
                right = kept;
            }
            boolean stays = d.cracked[i] || alsoCracked[i] || d.rules.isEmpty();
            next[i] = stays ? r[i] : makes(d.ruleOf[i], left, r[i], right);
        }
        return next;
    }

    private int[] beats(int[] r, int n) {
        for (int i = 0; i < n; i++) {
            r = beat(r);
        }
        return r;
    }

    private void act(int[] to, int beatsThen) {
        done.add(new State(row, beats));
        if (done.size() > 40) {
            done.remove(0);
        }
        undone.clear();
        row = to;
        beats = beatsThen;
    }

    private long run(int n) {
        if (n < 0 || n > 500 || beats + n > 100000) {
            return -1;
        }
        act(beats(row, n), beats + n);
        return beats;
    }

    private long order(int m, int v) {
        if (!man(m) || !move(v)) {
            return -1;
        }
        int did = row[m];
        int[] to = row.clone();
        to[m] = v;
        act(to, beats);
        return did;
    }

    private long undo() {
        if (done.isEmpty()) {
            return 0;
        }
        undone.add(new State(row, beats));
        go(done.remove(done.size() - 1));
        return 1;
    }

    private long redo() {
        if (undone.isEmpty()) {
            return 0;
        }
        done.add(new State(row, beats));
        go(undone.remove(undone.size() - 1));
        return 1;
    }

    private void go(State s) {
        row = s.row;
        beats = s.beats;
    }

    private long round(int what) {
        if (what != 0 && what != 1) {
            return -1;
        }
        Map<String, Integer> seen = new HashMap<>();
        int[] r = row;
        for (int i = 0; i <= 3000; i++) {
            Integer was = seen.putIfAbsent(Arrays.toString(r), i);
            if (was != null) {
                return what == 0 ? was : i - was;
            }
            r = beat(r);
        }
        return -2;
    }

    private int[] digits(long number, int count, int base) {
        int[] r = new int[count];
        for (int i = count - 1; i >= 0; i--) {
            r[i] = (int) (number % base);
            number /= base;
        }
        return r;
    }

    private static long power(int base, int n) {
        long p = 1;
        for (int i = 0; i < n; i++) {
            p *= base;
        }
        return p;
    }

    private long before() {
        lies = new ArrayList<>();
        if (power(d.moves, d.men) > 70000) {
            return beforeMany();
        }
        long count = 0;
        for (long k = 0; k < power(d.moves, d.men); k++) {
            int[] r = digits(k, d.men, d.moves);
            if (Arrays.equals(beat(r), row)) {
                if (count == 0) {
                    for (int v : r) {
                        lies.add(v);
                    }
                }
                count++;
            }
        }
        return count;
    }

    /** For rows too many to be tried out: counted from man 0 on, with some of them told already. */
    private long beforeMany() {
        int[] told = new int[d.men];
        Arrays.fill(told, -1);
        long count = countWith(told);
        for (int i = 0; i < d.men && count > 0; i++) {
            told[i] = 0;
            while (countWith(told) == 0) {
                told[i]++;
            }
            lies.add(told[i]);
        }
        return Math.min(count, 1000000000000000L);
    }

    /** Keyed by what men 0 and 1, the last but one and the last one did. */
    private long countWith(int[] told) {
        int m = d.moves;
        int n = d.men;
        long[][][][] now = new long[m][m][m][m];
        for (int a = 0; a < m; a++) {
            for (int b = 0; b < m; b++) {
                boolean may = (told[0] < 0 || told[0] == a) && (told[1] < 0 || told[1] == b);
                now[a][b][a][b] = may && (d.ring || turnsTo(0, d.edge, a, b) == row[0]) ? 1 : 0;
            }
        }
        for (int i = 2; i < n; i++) {
            long[][][][] next = new long[m][m][m][m];
            for (long k = 0; k < power(m, 5); k++) {
                int[] q = digits(k, 5, m);
                boolean may = (told[i] < 0 || told[i] == q[4]) && turnsTo(i - 1, q[2], q[3], q[4]) == row[i - 1];
                next[q[0]][q[1]][q[3]][q[4]] += may ? now[q[0]][q[1]][q[2]][q[3]] : 0;
            }
            now = next;
        }
        long count = 0;
        for (long k = 0; k < power(m, 4); k++) {
            int[] q = digits(k, 4, m);
            boolean closes = turnsTo(n - 1, q[2], q[3], d.ring ? q[0] : d.edge) == row[n - 1]
                && (!d.ring || turnsTo(0, q[3], q[0], q[1]) == row[0]);
            count += closes ? now[q[0]][q[1]][q[2]][q[3]] : 0;
        }
        return count;
    }

    private int turnsTo(int i, int left, int own, int right) {
        if (d.cracked[i] || d.rules.isEmpty()) {
            return own;
        }
        int a = d.window[i] >= 0 ? d.window[i] : d.turned[i] ? right : left;
        int b = d.window[i] >= 0 ? d.window[i] : d.turned[i] ? left : right;
        return makes(d.ruleOf[i], a, own, b);
    }

    private int[] table(int rule) {
        int m = d.moves;
        int[] t = new int[m * m * m];
        for (int i = 0; i < t.length; i++) {
            t[i] = Math.floorMod(d.rules.get(rule).value(i / (m * m), i / m % m, i % m), m);
        }
        return t;
    }

    private long orphan(int rule) {
        lies = new ArrayList<>();
        if (!rule(rule)) {
            return -1;
        }
        int m = d.moves;
        int[] t = tables.get(rule);
        for (int n = 1; power(m, n + 2) <= 20000; n++) {
            BitSet hit = new BitSet();
            for (long k = 0; k < power(m, n + 2); k++) {
                int[] w = digits(k, n + 2, m);
                int image = 0;
                for (int i = 0; i < n; i++) {
                    image = image * m + t[(w[i] * m + w[i + 1]) * m + w[i + 2]];
                }
                hit.set(image);
            }
            int free = hit.nextClearBit(0);
            if (free < power(m, n)) {
                for (int v : digits(free, n, m)) {
                    lies.add(v);
                }
                return n;
            }
        }
        return orphanBySets(t);
    }

    private record Word(BitSet ends, List<Integer> moves) { }

    /** For words too long to be tried out: what the last two that led to a word can have been. */
    private long orphanBySets(int[] t) {
        int m = d.moves;
        BitSet all = new BitSet();
        all.set(0, m * m);
        Set<BitSet> met = new HashSet<>(Set.of(all));
        List<Word> words = new ArrayList<>(List.of(new Word(all, List.of())));
        for (int i = 0; i < words.size(); i++) {
            for (int v = 0; v < m; v++) {
                BitSet ends = new BitSet();
                for (int x = 0; x < t.length; x++) {
                    if (words.get(i).ends.get(x / m) && t[x] == v) {
                        ends.set(x % (m * m));
                    }
                }
                List<Integer> longer = new ArrayList<>(words.get(i).moves);
                longer.add(v);
                if (ends.isEmpty()) {
                    lies = longer;
                    return longer.size();
                }
                if (met.add(ends)) {
                    words.add(new Word(ends, longer));
                }
            }
        }
        return 0;
    }

    /** Whether a walk of two unlike rows that do alike comes from a loop and goes to one. */
    private long one(int rule) {
        int m = d.moves;
        int[] t = tables.get(rule);
        int n = m * m * m * m;
        BitSet[] reach = new BitSet[n];
        for (int x = 0; x < n; x++) {
            int[] q = digits(x, 4, m);
            reach[x] = new BitSet();
            for (int e = 0; e < m; e++) {
                for (int f = 0; f < m; f++) {
                    if (t[(q[0] * m + q[1]) * m + e] == t[(q[2] * m + q[3]) * m + f]) {
                        reach[x].set(((q[1] * m + e) * m + q[3]) * m + f);
                    }
                }
            }
        }
        for (int k = 0; k < n; k++) {
            for (int x = 0; x < n; x++) {
                if (reach[x].get(k)) {
                    reach[x].or(reach[k]);
                }
            }
        }
        BitSet loops = new BitSet();
        for (int x = 0; x < n; x++) {
            loops.set(x, reach[x].get(x));
        }
        for (int x = 0; x < n; x++) {
            int[] q = digits(x, 4, m);
            boolean unlike = q[0] != q[2] || q[1] != q[3];
            boolean goes = reach[x].intersects(loops);
            boolean came = false;
            for (int y = loops.nextSetBit(0); y >= 0 && !came; y = loops.nextSetBit(y + 1)) {
                came = reach[y].get(x);
            }
            if (unlike && goes && came) {
                return 0;
            }
        }
        return 1;
    }

    private long keeps(int rule) {
        int m = d.moves;
        int[] t = tables.get(rule);
        for (int n = 1; n <= 6; n++) {
            for (long k = 0; k < power(m, n); k++) {
                int[] r = digits(k, n, m);
                int gain = 0;
                for (int i = 0; i < n; i++) {
                    gain += d.worths[t[(r[(i + n - 1) % n] * m + r[i]) * m + r[(i + 1) % n]]] - d.worths[r[i]];
                }
                if (gain != 0) {
                    return 0;
                }
            }
        }
        return 1;
    }

    private long spread(int m, int v, int n) {
        if (!man(m) || !move(v) || n < 0 || n > 200) {
            return -1;
        }
        int[] other = row.clone();
        other[m] = v;
        int[] a = beats(row, n);
        int[] b = beats(other, n);
        long count = 0;
        for (int i = 0; i < d.men; i++) {
            count += a[i] != b[i] ? 1 : 0;
        }
        return count;
    }

    /** All sets of so many men, in their order. */
    private List<int[]> sets(int size) {
        List<int[]> found = new ArrayList<>();
        for (int a = 0; a < d.men; a++) {
            if (size == 1) {
                found.add(new int[] {a});
            }
            for (int b = a + 1; b < d.men && size > 1; b++) {
                if (size == 2) {
                    found.add(new int[] {a, b});
                }
                for (int c = b + 1; c < d.men && size > 2; c++) {
                    found.add(new int[] {a, b, c});
                }
            }
        }
        return found;
    }

    private long glint(int m, int v, int n) {
        lies = new ArrayList<>();
        if (!man(m) || !move(v) || n < 0 || n > 8) {
            return -2;
        }
        if (beats(row, n)[m] == v) {
            return 0;
        }
        if (power(d.men, 4) * power(d.moves - 1, 3) * n / 6 > 1500000) {
            lies = null;
            return UNKNOWN;
        }
        for (int size = 1; size <= 3; size++) {
            for (int[] set : sets(size)) {
                for (long k = 0; k < power(d.moves, size); k++) {
                    int[] to = digits(k, size, d.moves);
                    int[] r = row.clone();
                    boolean another = true;
                    for (int i = 0; i < size; i++) {
                        another &= r[set[i]] != to[i];
                        r[set[i]] = to[i];
                    }
                    if (another && beats(r, n)[m] == v) {
                        Arrays.stream(set).forEach(lies::add);
                        Arrays.stream(to).forEach(lies::add);
                        return size;
                    }
                }
            }
        }
        return -1;
    }

    private long cracks(int m, int v, int n) {
        lies = new ArrayList<>();
        if (!man(m) || !move(v) || n < 1 || n > 30) {
            return -2;
        }
        if (beats(row, n)[m] == v) {
            return 0;
        }
        for (int size = 1; size <= 2; size++) {
            for (int[] set : sets(size)) {
                boolean[] also = new boolean[d.men];
                for (int i : set) {
                    also[i] = true;
                }
                int[] r = row;
                for (int i = 0; i < n; i++) {
                    r = beat(r, also, d.window);
                }
                if (r[m] == v) {
                    Arrays.stream(set).forEach(lies::add);
                    return size;
                }
            }
        }
        return -1;
    }

    private long sight(int beat, int m, int v) {
        if (beat < 0 || beat > 30 || !man(m) || !move(v) || sights.size() == 30) {
            return -1;
        }
        sights.add(new Sight(beat, m, v, time, new int[] {Integer.MAX_VALUE}));
        return sights.size() - 1;
    }

    private long untell(int i) {
        if (i < 0 || i >= sights.size() || sights.get(i).untold[0] != Integer.MAX_VALUE) {
            return 0;
        }
        sights.get(i).untold[0] = time;
        return 1;
    }

    private long later(int by) {
        if (by < 0 || by > 1000 || time + by > 100000) {
            return -1;
        }
        time += by;
        return time;
    }

    private long unsure(int men) {
        if (men < 0 || (long) men >= 1L << d.men || Integer.bitCount(men) > 6) {
            return -1;
        }
        unsure = men;
        return Integer.bitCount(men);
    }

    private boolean holds(int[] first, int k, boolean[] also, int[] window) {
        int[][] at = new int[31][];
        at[0] = first;
        for (int i = 1; i <= 30; i++) {
            at[i] = beat(at[i - 1], also, window);
        }
        for (Sight s : sights) {
            boolean untold = s.untold[0] != Integer.MAX_VALUE && s.untold[0] <= k;
            if (s.told <= k && !untold && at[s.beat][s.man] != s.move) {
                return false;
            }
        }
        return true;
    }

    private Set<List<Integer>> fitting(int k) {
        Set<List<Integer>> rows = new HashSet<>();
        List<int[]> open = new ArrayList<>();
        open.add(d.first.clone());
        for (int i = 0; i < d.men; i++) {
            if ((unsure >> i & 1) != 0) {
                List<int[]> wider = new ArrayList<>();
                for (int[] r : open) {
                    for (int v = 0; v < d.moves; v++) {
                        int[] other = r.clone();
                        other[i] = v;
                        wider.add(other);
                    }
                }
                open = wider;
            }
        }
        for (int[] r : open) {
            if (holds(r, k, new boolean[d.men], d.window)) {
                rows.add(Arrays.stream(r).boxed().toList());
            }
        }
        return rows;
    }

    private long sure(int m, int k) {
        if (!man(m) || (unsure >> m & 1) == 0) {
            return -1;
        }
        Set<Integer> did = new HashSet<>();
        for (List<Integer> r : fitting(k)) {
            did.add(r.get(m));
        }
        return did.isEmpty() ? -1 : did.size() > 1 ? -2 : did.iterator().next();
    }

    private long wrong(int what, int k) {
        if (what == 0) {
            return holds(d.first, k, new boolean[d.men], d.window) ? 1 : 0;
        }
        if (what != 1 && what != 2) {
            return -1;
        }
        int bits = 0;
        for (int i = 0; i < d.men; i++) {
            if (what == 1) {
                boolean[] also = new boolean[d.men];
                also[i] = true;
                bits |= !d.cracked[i] && holds(d.first, k, also, d.window) ? 1 << i : 0;
            }
            for (int v = 0; v < d.moves && what == 2; v++) {
                int[] window = d.window.clone();
                window[i] = v;
                bits |= d.window[i] != v && holds(d.first, k, new boolean[d.men], window) ? 1 << i : 0;
            }
        }
        return bits;
    }

    private long image(int box) {
        if (box < 0 || box > 2) {
            return -1;
        }
        boxes[box] = new State(row, beats);
        return beats;
    }

    private long back(int box) {
        if (box < 0 || box > 2 || boxes[box] == null) {
            return -1;
        }
        go(boxes[box]);
        done.clear();
        undone.clear();
        return beats;
    }

    /** What lies there isn't known behind an answer that isn't. */
    boolean knowsLies() {
        return lies != null;
    }

    private long about(int what) {
        switch (what) {
            case 0: return d.men;
            case 1: return d.moves;
            case 2: return d.rules.size();
            case 3: return beats;
            case 4: return done.size();
            case 5: return undone.size();
            case 6: return sights.size();
            case 7: return time;
            case 8: return tape.length;
            case 9: return d.units;
            case 10: return d.ring ? 1 : 0;
            case 11: return lies.size();
            case 12: return unsure;
            default: return -1;
        }
    }
}
