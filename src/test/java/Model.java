import java.util.ArrayDeque;
import java.util.ArrayList;
import java.util.Arrays;
import java.util.Deque;
import java.util.List;

/** The document's promises once more, each in the plainest way and none in the way of the class. */
final class Model {
    /** A town and its doors. */
    static final class Graph {
        int n;
        boolean[][] door = new boolean[12][12];

        Graph copy() {
            Graph g = new Graph();
            g.n = n;
            for (int i = 0; i < 12; i++) {
                g.door[i] = door[i].clone();
            }
            return g;
        }

        boolean has(int h) {
            return 0 <= h && h < n;
        }

        void set(int a, int b, boolean is) {
            door[a][b] = is;
            door[b][a] = is;
        }

        int doors() {
            int c = 0;
            for (int[] p : Due.pairs(n)) {
                c += door[p[0]][p[1]] ? 1 : 0;
            }
            return c;
        }

        boolean isThree(int a, int b, int c) {
            return door[a][b] && door[b][c] && door[a][c];
        }

        int threes(int with) {
            int found = 0;
            for (int a = 0; a < n; a++) {
                for (int b = a + 1; b < n; b++) {
                    for (int c = b + 1; c < n; c++) {
                        if (isThree(a, b, c) && (with < 0 || with == a || with == b || with == c)) {
                            found++;
                        }
                    }
                }
            }
            return found;
        }

        int fours(int with) {
            int found = 0;
            for (int a = 0; a < n; a++) {
                for (int b = a + 1; b < n; b++) {
                    for (int c = b + 1; c < n; c++) {
                        for (int d = c + 1; d < n; d++) {
                            if (with < 0 || with == a || with == b || with == c || with == d) {
                                found += round(a, b, c, d) + round(a, c, b, d) + round(a, b, d, c);
                            }
                        }
                    }
                }
            }
            return found;
        }

        private int round(int a, int b, int c, int d) {
            return door[a][b] && door[b][c] && door[c][d] && door[d][a] ? 1 : 0;
        }

        /** Steps between all, 99 where there is no way. */
        int[][] steps() {
            int[][] d = new int[n][n];
            for (int a = 0; a < n; a++) {
                for (int b = 0; b < n; b++) {
                    d[a][b] = a == b ? 0 : door[a][b] ? 1 : 99;
                }
            }
            for (int k = 0; k < n; k++) {
                for (int a = 0; a < n; a++) {
                    for (int b = 0; b < n; b++) {
                        d[a][b] = Math.min(d[a][b], d[a][k] + d[k][b]);
                    }
                }
            }
            for (int[] row : d) {
                for (int b = 0; b < n; b++) {
                    row[b] = Math.min(row[b], 99);
                }
            }
            return d;
        }

        /** The houses with so many steps from one to another. */
        int atSteps(int h, int least, int most) {
            int bits = 0;
            int[][] d = steps();
            for (int b = 0; b < n; b++) {
                if (d[h][b] >= least && d[h][b] <= most) {
                    bits |= 1 << b;
                }
            }
            return bits;
        }

        int far(int h) {
            int far = 0;
            for (int s : steps()[h]) {
                far = s == 99 ? far : Math.max(far, s);
            }
            return far;
        }

        int parts() {
            int parts = 0;
            int[][] d = steps();
            for (int a = 0; a < n; a++) {
                boolean first = true;
                for (int b = 0; b < a; b++) {
                    first &= d[a][b] == 99;
                }
                parts += first ? 1 : 0;
            }
            return parts;
        }

        boolean isFeast(int set) {
            for (int[] p : Due.pairs(n)) {
                if ((set >> p[0] & 1) == 1 && (set >> p[1] & 1) == 1 && door[p[0]][p[1]]) {
                    return false;
                }
            }
            return true;
        }

        int largestFeast(int with) {
            int best = -1;
            for (int set = 0; set < 1 << n; set++) {
                if ((with < 0 || (set >> with & 1) == 1) && isFeast(set)
                        && (best < 0 || Integer.bitCount(set) > Integer.bitCount(best))) {
                    best = set;
                }
            }
            return best;
        }

        int halves() {
            int[][] d = steps();
            for (int set = 0; set < 1 << n; set++) {
                boolean good = true;
                for (int[] p : Due.pairs(n)) {
                    if (door[p[0]][p[1]] && (set >> p[0] & 1) == (set >> p[1] & 1)) {
                        good = false;
                    }
                }
                for (int a = 0; a < n && good; a++) {
                    boolean first = true;
                    for (int b = 0; b < a; b++) {
                        first &= d[a][b] == 99;
                    }
                    good = !first || (set >> a & 1) == 1;
                }
                if (good) {
                    return set;
                }
            }
            return -1;
        }

        /** Ways to give each of those in all sets one of k colours. */
        long ways(int k) {
            boolean[] feast = new boolean[1 << n];
            for (int set = 0; set < 1 << n; set++) {
                feast[set] = isFeast(set);
            }
            long[] ways = new long[1 << n];
            ways[0] = 1;
            for (int c = 0; c < k; c++) {
                long[] more = new long[1 << n];
                for (int set = 0; set < 1 << n; set++) {
                    int sub = set;
                    while (true) {
                        if (feast[sub]) {
                            more[set] += ways[set ^ sub];
                        }
                        if (sub == 0) {
                            break;
                        }
                        sub = sub - 1 & set;
                    }
                }
                ways = more;
            }
            return ways[(1 << n) - 1];
        }

        int colours() {
            for (int k = 0;; k++) {
                int[] shade = new int[n];
                if (paint(shade, 0, k)) {
                    return k;
                }
            }
        }

        boolean paint(int[] shade, int h, int k) {
            if (h == n) {
                return true;
            }
            for (shade[h] = 0; shade[h] < k; shade[h]++) {
                boolean good = true;
                for (int b = 0; b < h; b++) {
                    good &= !door[b][h] || shade[b] != shade[h];
                }
                if (good && paint(shade, h + 1, k)) {
                    return true;
                }
            }
            return false;
        }

        Graph without(int h) {
            Graph g = new Graph();
            g.n = n - 1;
            for (int a = 0; a < n; a++) {
                for (int b = 0; b < n; b++) {
                    if (a != h && b != h) {
                        g.door[a > h ? a - 1 : a][b > h ? b - 1 : b] = door[a][b];
                    }
                }
            }
            return g;
        }

        int telling(int h) {
            int goal = atSteps(h, 0, 98);
            boolean[] level = new boolean[1 << n];
            level[1 << h] = true;
            for (int rounds = 0;; rounds++) {
                if (level[goal]) {
                    return rounds;
                }
                boolean[] next = new boolean[1 << n];
                for (int known = 0; known < 1 << n; known++) {
                    if (level[known]) {
                        tellOn(known, known, 0, next);
                    }
                }
                level = next;
            }
        }

        private void tellOn(int known, int after, int teller, boolean[] next) {
            if (teller == n) {
                next[after] = true;
                return;
            }
            boolean told = false;
            if ((known >> teller & 1) == 1) {
                for (int b = 0; b < n; b++) {
                    if (door[teller][b] && (after >> b & 1) == 0) {
                        tellOn(known, after | 1 << b, teller + 1, next);
                        told = true;
                    }
                }
            }
            if (!told) {
                tellOn(known, after, teller + 1, next);
            }
        }

        int mark() {
            int[] least = {Integer.MAX_VALUE};
            int[] order = new int[n];
            permute(order, 0, 0, p -> least[0] = Math.min(least[0], bits(p)));
            return least[0];
        }

        int bits(int[] p) {
            int bits = 0;
            int i = 0;
            for (int b = 0; b < n; b++) {
                for (int a = 0; a < b; a++) {
                    bits |= (door[p[a]][p[b]] ? 1 : 0) << i++;
                }
            }
            return bits;
        }

        int matches(Graph other) {
            if (n != other.n) {
                return 0;
            }
            int[] found = {0};
            permute(new int[n], 0, 0, p -> {
                for (int[] q : Due.pairs(n)) {
                    if (door[q[0]][q[1]] != other.door[p[q[0]]][p[q[1]]]) {
                        return;
                    }
                }
                found[0]++;
            });
            return found[0];
        }

        interface Order {
            void see(int[] p);
        }

        void permute(int[] p, int i, int taken, Order order) {
            if (i == n) {
                order.see(p);
                return;
            }
            for (int h = 0; h < n; h++) {
                if ((taken >> h & 1) == 0) {
                    p[i] = h;
                    permute(p, i + 1, taken | 1 << h, order);
                }
            }
        }

        boolean hasRing(int length) {
            for (int a = 0; a < n; a++) {
                if (ringOn(a, a, 1 << a, length - 1)) {
                    return true;
                }
            }
            return false;
        }

        private boolean ringOn(int first, int last, int taken, int left) {
            if (left == 0) {
                return door[last][first];
            }
            for (int b = first + 1; b < n; b++) {
                if (door[last][b] && (taken >> b & 1) == 0 && ringOn(first, b, taken | 1 << b, left - 1)) {
                    return true;
                }
            }
            return false;
        }

        List<int[]> doorList() {
            List<int[]> all = Due.pairs(n);
            all.removeIf(p -> !door[p[0]][p[1]]);
            return all;
        }

        /** The first rows of so many walls by which there is no three, null if none is. */
        List<int[]> cure(int walls) {
            List<int[]> row = new ArrayList<>();
            return cureFrom(doorList(), 0, walls, row) ? row : null;
        }

        private boolean cureFrom(List<int[]> doors, int from, int walls, List<int[]> row) {
            if (walls == 0) {
                return threes(-1) == 0;
            }
            for (int i = from; i < doors.size(); i++) {
                int[] p = doors.get(i);
                set(p[0], p[1], false);
                row.add(p);
                boolean good = cureFrom(doors, i + 1, walls - 1, row);
                set(p[0], p[1], true);
                if (good) {
                    return true;
                }
                row.remove(row.size() - 1);
            }
            return false;
        }

        int pay(int h, int cost) {
            int pay = 0;
            int[][] d = steps();
            for (int b = 0; b < n; b++) {
                pay += d[h][b] == 1 ? 10 - cost : d[h][b] == 2 ? 4 : 0;
            }
            return pay;
        }
    }

    static final int NONE = -1;

    Graph g = new Graph();
    List<List<String>> rules = new ArrayList<>();
    int lines = 0;
    Deque<Graph> past = new ArrayDeque<>();
    String tape = "";
    int kind = 0;
    int place = -1;
    final Model[] images = new Model[2];
    final long[][] rows = new long[4][];
    final int[] sorts = new int[4];

    // ---- the town

    int feed(int... ints) {
        if (tape.length() + 20 > 900) {
            return -5;
        }
        StringBuilder more = new StringBuilder(tape);
        for (int v : ints) {
            for (int shift = 24; shift >= 0; shift -= 8) {
                more.append((char) (v >>> shift & 255));
            }
        }
        tape = more.toString();
        return tape.length();
    }

    int town(int n) {
        if (n < 0 || n > tape.length()) {
            return -3;
        }
        TextModel text = new TextModel(tape.substring(0, n));
        tape = "";
        kind = text.kind;
        place = text.place;
        if (kind != 0) {
            return -30 - kind;
        }
        g = new Graph();
        g.n = text.houses;
        for (int key : text.doors) {
            g.set(key / 100, key % 100, true);
        }
        rules = text.rules;
        lines = text.lines;
        past.clear();
        return lines;
    }

    int fault(int what) {
        return what == 0 ? kind : what == 1 ? place : NONE;
    }

    int house(int h, int what) {
        if (!g.has(h) || what < 0 || what > 6) {
            return -2;
        }
        int[] all = {Integer.bitCount(g.atSteps(h, 1, 1)), g.atSteps(h, 1, 1), g.threes(h), g.fours(h), g.far(h),
            g.atSteps(h, 0, 98), g.atSteps(h, 2, 2)};
        return all[what];
    }

    int steps(int a, int b) {
        if (!g.has(a) || !g.has(b)) {
            return -2;
        }
        int s = g.steps()[a][b];
        return s == 99 ? NONE : s;
    }

    static boolean holds(List<String> rule, Graph g, int h) {
        return TextModel.holds(rule, word -> {
            switch (word) {
                case "doors":
                    return Integer.bitCount(g.atSteps(h, 1, 1));
                case "threes":
                    return g.threes(h);
                case "fours":
                    return g.fours(h);
                case "far":
                    return g.far(h);
                case "houses":
                    return g.n;
                case "pairs":
                    return g.doors();
                case "feast":
                    return Integer.bitCount(g.largestFeast(-1));
                case "colours":
                    return g.colours();
                default:
                    return g.halves() < 0 ? 0 : 1;
            }
        });
    }

    int holds(int rule, int h) {
        if (rule < 0 || rule >= rules.size() || !g.has(h)) {
            return -2;
        }
        return holds(rules.get(rule), g, h) ? 1 : 0;
    }

    int broken(int what) {
        if (what != 0 && what != 1) {
            return -2;
        }
        for (int h = 0; h < g.n; h++) {
            for (int r = 0; r < rules.size(); r++) {
                if (!holds(rules.get(r), g, h)) {
                    return what == 0 ? h : r;
                }
            }
        }
        return NONE;
    }

    int breaches() {
        int found = 0;
        for (int h = 0; h < g.n; h++) {
            for (List<String> rule : rules) {
                found += holds(rule, g, h) ? 0 : 1;
            }
        }
        return found;
    }

    // ---- deeds

    private boolean breaks(Graph then, Graph before) {
        for (int h = 0; h < then.n; h++) {
            for (List<String> rule : rules) {
                if (!holds(rule, then, h) && (h >= before.n || holds(rule, before, h))) {
                    return true;
                }
            }
        }
        return false;
    }

    int whyIn(Graph g, int a, int b) {
        if (!g.has(a) || !g.has(b) || a == b) {
            return 1;
        }
        if (g.door[a][b]) {
            return 2;
        }
        Graph then = g.copy();
        then.set(a, b, true);
        if (then.threes(-1) > g.threes(-1)) {
            return 3;
        }
        return breaks(then, g) ? 4 : 0;
    }

    int why(int a, int b) {
        return whyIn(g, a, b);
    }

    private void deed() {
        past.addLast(g.copy());
        if (past.size() > 12) {
            past.removeFirst();
        }
    }

    int join(int a, int b) {
        int why = why(a, b);
        if (why != 0) {
            return -10 - why;
        }
        deed();
        g.set(a, b, true);
        return g.doors();
    }

    int wall(int a, int b) {
        if (!g.has(a) || !g.has(b) || a == b) {
            return -11;
        }
        if (!g.door[a][b]) {
            return -15;
        }
        deed();
        g.set(a, b, false);
        return g.doors();
    }

    int may(int h) {
        if (!g.has(h)) {
            return -2;
        }
        int bits = 0;
        for (int b = 0; b < g.n; b++) {
            bits |= why(h, b) == 0 ? 1 << b : 0;
        }
        return bits;
    }

    private Graph with(int set) {
        Graph then = g.copy();
        then.n++;
        for (int h = 0; h < g.n; h++) {
            then.set(h, g.n, (set >> h & 1) == 1);
        }
        return then;
    }

    int enter(int set) {
        if (set < 0 || set >= 1 << g.n) {
            return -11;
        }
        if (g.n == 11) {
            return -16;
        }
        Graph then = with(set);
        if (then.threes(-1) > g.threes(-1)) {
            return -13;
        }
        if (breaks(then, g)) {
            return -14;
        }
        deed();
        g = then;
        return g.n - 1;
    }

    int leave(int h) {
        if (!g.has(h)) {
            return -11;
        }
        deed();
        g = g.without(h);
        return g.n;
    }

    int weave() {
        if (g.n > 5) {
            return -4;
        }
        deed();
        int n = g.n;
        Graph old = g;
        g = old.copy();
        g.n = 2 * n + 1;
        for (int h = 0; h < n; h++) {
            for (int b = 0; b < n; b++) {
                if (old.door[h][b]) {
                    g.set(h + n, b, true);
                }
            }
            g.set(h + n, 2 * n, true);
        }
        return g.n;
    }

    int undo(int n) {
        if (n < 1 || n > past.size()) {
            return -3;
        }
        for (int i = 0; i < n; i++) {
            g = past.removeLast().copy();
        }
        return past.size();
    }

    int judge(int row, int what) {
        if (row < 0 || row > 3 || what < 0 || what > 3) {
            return -2;
        }
        if (rows[row] == null) {
            return -6;
        }
        Model as = new Model();
        as.g = g.copy();
        as.rules = rules;
        for (int i = 0; i < rows[row].length; i++) {
            int why = as.act(rows[row][i]);
            if (why != 0 && what < 2) {
                return what == 0 ? i : why;
            }
            if (why != 0) {
                break;
            }
        }
        return what == 0 ? NONE : what == 1 ? 0 : what == 2 ? as.g.doors() : as.g.threes(-1);
    }

    private int act(long v) {
        for (int a = 0; a < g.n; a++) {
            for (int b = 0; b < g.n; b++) {
                if (v == 100 * a + b && a != b) {
                    int answer = g.door[a][b] ? wall(a, b) : join(a, b);
                    return answer < 0 ? -10 - answer : 0;
                }
            }
        }
        return 1;
    }

    int perform(int row) {
        if (row < 0 || row > 3) {
            return -2;
        }
        if (rows[row] == null) {
            return -6;
        }
        int done = 0;
        while (done < rows[row].length && act(rows[row][done]) == 0) {
            done++;
        }
        return done;
    }

    int grow(int n) {
        if (n < 1 || n > 11) {
            return -3;
        }
        for (int came = 0; came < n; came++) {
            int best = -1;
            for (int set = 0; set < 1 << g.n && g.n < 11; set++) {
                if (g.isFeast(set) && (best < 0 || Integer.bitCount(set) > Integer.bitCount(best))
                        && !breaks(with(set), g)) {
                    best = set;
                }
            }
            if (best < 0) {
                return came;
            }
            deed();
            g = with(best);
        }
        return n;
    }

    private int x;

    private int draw() {
        x = 1103515245 * x + 12345;
        return x >>> 16;
    }

    int century(int seed, int times) {
        if (times < 1 || times > 60) {
            return -3;
        }
        if (g.n == 0) {
            return -5;
        }
        x = seed;
        int done = 0;
        for (int i = 0; i < times; i++) {
            int a = draw() % g.n;
            int b = draw() % g.n;
            int answer = draw() % 4 == 0 ? wall(a, b) : join(a, b);
            done += answer >= 0 ? 1 : 0;
        }
        return done;
    }

    // ---- threes, fours, scandals

    int three(int k) {
        int i = 0;
        for (int a = 0; a < g.n; a++) {
            for (int b = a + 1; b < g.n; b++) {
                for (int c = b + 1; c < g.n; c++) {
                    if (g.isThree(a, b, c) && i++ == k) {
                        return 10000 * a + 100 * b + c;
                    }
                }
            }
        }
        return k == NONE ? i : NONE;
    }

    int fours() {
        return g.fours(-1);
    }

    int scandal() {
        for (int length = 3; length <= g.n; length += 2) {
            if (g.hasRing(length)) {
                return length;
            }
        }
        return NONE;
    }

    int halves() {
        return g.halves();
    }

    int strangers() {
        return triples((1 << g.n) - 1, false);
    }

    private int triples(int set, boolean neighbours) {
        int found = 0;
        for (int a = 0; a < g.n; a++) {
            for (int b = a + 1; b < g.n; b++) {
                for (int c = b + 1; c < g.n; c++) {
                    int trio = 1 << a | 1 << b | 1 << c;
                    if ((set & trio) == trio && g.door[a][b] == neighbours && g.door[b][c] == neighbours
                            && g.door[a][c] == neighbours) {
                        found++;
                    }
                }
            }
        }
        return found;
    }

    int six(int what) {
        if (what != 0 && what != 1) {
            return -2;
        }
        int best = -1;
        int fewest = 99;
        for (int set = 0; set < 1 << g.n; set++) {
            if (Integer.bitCount(set) == 6) {
                int meet = triples(set, true) + triples(set, false);
                if (meet < fewest) {
                    fewest = meet;
                    best = set;
                }
            }
        }
        return best < 0 ? NONE : what == 0 ? fewest : best;
    }

    // ---- feasts, colours

    int feasts() {
        int found = 0;
        for (int set = 0; set < 1 << g.n; set++) {
            found += g.isFeast(set) ? 1 : 0;
        }
        return found;
    }

    int full() {
        int found = 0;
        for (int set = 0; set < 1 << g.n; set++) {
            boolean full = g.isFeast(set);
            for (int h = 0; h < g.n && full; h++) {
                full = (set >> h & 1) == 1 || !g.isFeast(set | 1 << h);
            }
            found += full ? 1 : 0;
        }
        return found;
    }

    int feast(int h) {
        return h != NONE && !g.has(h) ? -2 : g.largestFeast(h);
    }

    int colours() {
        return g.colours();
    }

    int colour(int h) {
        if (!g.has(h)) {
            return -2;
        }
        int[] shade = new int[g.n];
        g.paint(shade, 0, g.colours());
        return shade[h];
    }

    long ways(int k) {
        return k < 0 || k > 6 ? -3 : g.ways(k);
    }

    int dear() {
        for (int h = 0; h < g.n; h++) {
            if (g.without(h).colours() < g.colours()) {
                return h;
            }
        }
        return NONE;
    }

    // ---- gossip

    int telling(int h) {
        return g.has(h) ? g.telling(h) : -2;
    }

    int teller() {
        int best = NONE;
        for (int h = 0; h < g.n; h++) {
            if (best == NONE) {
                best = h;
                continue;
            }
            int more = Integer.bitCount(g.atSteps(h, 0, 98)) - Integer.bitCount(g.atSteps(best, 0, 98));
            if (more > 0 || more == 0 && g.telling(h) < g.telling(best)) {
                best = h;
            }
        }
        return best;
    }

    int safe(int h, int n) {
        return !g.has(h) ? -2 : n < 0 || n > 10 ? -3 : g.atSteps(h, n + 1, 99);
    }

    int wide(int what) {
        if (what != 0 && what != 1) {
            return -2;
        }
        if (g.n == 0) {
            return NONE;
        }
        int[][] d = g.steps();
        int widest = 0;
        int pair = NONE;
        for (int[] p : Due.pairs(g.n)) {
            int s = d[p[0]][p[1]];
            if (s < 99 && s > widest) {
                widest = s;
                pair = 100 * p[0] + p[1];
            }
        }
        return what == 0 ? widest : pair;
    }

    // ---- alike ones

    int mark() {
        return g.n > 6 ? -4 : g.mark();
    }

    int selves() {
        return g.n > 8 ? -4 : g.matches(g);
    }

    int alike(int i) {
        if (i != 0 && i != 1) {
            return -2;
        }
        if (images[i] == null) {
            return -5;
        }
        if (g.n > 8 || images[i].g.n > 8) {
            return -4;
        }
        return g.matches(images[i].g) > 0 ? 1 : 0;
    }

    static Graph ofBits(int n, int bits) {
        Graph g = new Graph();
        g.n = n;
        int i = 0;
        for (int b = 0; b < n; b++) {
            for (int a = 0; a < b; a++) {
                g.set(a, b, (bits >> i++ & 1) == 1);
            }
        }
        return g;
    }

    static int unlike(int n, boolean fours) {
        if (n < 0 || n > 5) {
            return -3;
        }
        int found = 0;
        for (int bits = 0; bits < 1 << n * (n - 1) / 2; bits++) {
            Graph g = ofBits(n, bits);
            if (g.threes(-1) == 0 && (!fours || g.fours(-1) == 0) && g.mark() == bits) {
                found++;
            }
        }
        return found;
    }

    static int mostDoors(int n, boolean fours) {
        if (n < 0 || n > 6) {
            return -3;
        }
        int most = 0;
        for (int bits = 0; bits < 1 << n * (n - 1) / 2; bits++) {
            Graph g = ofBits(n, bits);
            if (Integer.bitCount(bits) > most && g.threes(-1) == 0 && (!fours || g.fours(-1) == 0)) {
                most = Integer.bitCount(bits);
            }
        }
        return most;
    }

    // ---- cures, rests

    int cure(int what) {
        if (what != 0 && (what < 10 || what > 15)) {
            return -2;
        }
        for (int walls = 0; walls <= 6; walls++) {
            List<int[]> row = g.cure(walls);
            if (row != null && what == 0) {
                return walls;
            }
            if (row != null) {
                return what - 10 < walls ? 100 * row.get(what - 10)[0] + row.get(what - 10)[1] : NONE;
            }
        }
        return -4;
    }

    int pay(int h, int cost) {
        return !g.has(h) ? -2 : cost < 0 || cost > 99 ? -3 : g.pay(h, cost);
    }

    /** The pair by whom the town isn't at rest, or null. */
    private int[] restless(Graph g, int cost) {
        for (int[] p : Due.pairs(g.n)) {
            if (g.door[p[0]][p[1]]) {
                Graph then = g.copy();
                then.set(p[0], p[1], false);
                if (then.pay(p[0], cost) > g.pay(p[0], cost) || then.pay(p[1], cost) > g.pay(p[1], cost)) {
                    return p;
                }
            }
        }
        for (int[] p : Due.pairs(g.n)) {
            if (!g.door[p[0]][p[1]]) {
                Graph then = g.copy();
                then.set(p[0], p[1], true);
                int a = then.pay(p[0], cost) - g.pay(p[0], cost);
                int b = then.pay(p[1], cost) - g.pay(p[1], cost);
                if (a >= 0 && b >= 0 && a + b > 0 && whyIn(g, p[0], p[1]) == 0) {
                    return p;
                }
            }
        }
        return null;
    }

    int atRest(int cost) {
        return cost < 0 || cost > 99 ? -3 : restless(g, cost) == null ? 1 : 0;
    }

    int changing(int cost, int what) {
        if (what < 0 || what > 2) {
            return -2;
        }
        if (cost < 0 || cost > 99) {
            return -3;
        }
        Graph then = g.copy();
        int times = 0;
        while (times < 60 && restless(then, cost) != null) {
            int[] p = restless(then, cost);
            then.set(p[0], p[1], !then.door[p[0]][p[1]]);
            times++;
        }
        return what == 0 ? times : what == 1 ? then.doors() : restless(then, cost) == null ? 1 : 0;
    }

    int dearness() {
        for (int cost = 0; cost <= 99; cost++) {
            if (restless(g, cost) == null) {
                return cost;
            }
        }
        return NONE;
    }

    // ---- rows of numbers, images

    int numbers(int row, int sort, int n) {
        if (row < 0 || row > 3 || sort < 0 || sort > 3) {
            return -2;
        }
        if (n < 0 || n > 40) {
            return -3;
        }
        rows[row] = new long[n];
        sorts[row] = sort;
        return 0;
    }

    private void put(int row, int i, long v) {
        int gone = 64 - (8 << sorts[row]);
        rows[row][i] = v << gone >> gone;
    }

    long write(int row, int i, long v) {
        if (row < 0 || row > 3) {
            return -2;
        }
        if (rows[row] == null) {
            return -6;
        }
        if (i < 0 || i >= rows[row].length) {
            return -7;
        }
        put(row, i, v);
        return rows[row][i];
    }

    int copy(int row) {
        if (row < 0 || row > 3) {
            return -2;
        }
        if (rows[row] == null) {
            return -6;
        }
        List<int[]> doors = g.doorList();
        int many = Math.min(doors.size(), rows[row].length);
        for (int i = 0; i < many; i++) {
            put(row, i, 100 * doors.get(i)[0] + doors.get(i)[1]);
        }
        return many;
    }

    private void take(Model from) {
        g = from.g.copy();
        rules = from.rules;
        lines = from.lines;
        past = new ArrayDeque<>(from.past);
    }

    int image(int i) {
        if (i != 0 && i != 1) {
            return -2;
        }
        images[i] = new Model();
        images[i].take(this);
        return 0;
    }

    int restore(int i) {
        if (i != 0 && i != 1) {
            return -2;
        }
        if (images[i] == null) {
            return -5;
        }
        take(images[i]);
        return 0;
    }

    int count(int what) {
        int[] all = {g.n, g.doors(), rules.size(), past.size(), g.threes(-1), g.parts(), tape.length(), lines};
        return what < 0 || what > 7 ? NONE : all[what];
    }
}
