import java.util.Random;

/** Runs of calls drawn by seeds, each answered by the class and by the plain model. */
final class RandomRunsTest {
    private static final String[] WORDS = {
        "doors", "threes", "fours", "far", "houses", "pairs", "feast", "colours", "halves"};

    private final Random random;
    private final NoThree x = new NoThree();
    private final Model m = new Model();
    private final String run;

    private RandomRunsTest(long seed) {
        random = new Random(seed);
        run = "run " + seed + " ";
    }

    public static void main(String[] args) {
        int runs = args.length > 0 ? Integer.parseInt(args[0]) : 400;
        long first = args.length > 1 ? Long.parseLong(args[1]) : 1;
        for (long seed = first; seed < first + runs; seed++) {
            new RandomRunsTest(seed).go(150);
        }
        Due.end();
    }

    private int upTo(int n) {
        return random.nextInt(n);
    }

    // ---- texts

    private String blank() {
        return upTo(6) == 0 ? "\n" : upTo(3) == 0 ? "  " : " ";
    }

    private String maybe() {
        return upTo(3) == 0 ? blank() : "";
    }

    private String sum(int depth) {
        StringBuilder s = new StringBuilder(term(depth));
        while (upTo(3) == 0) {
            s.append(maybe()).append(upTo(2) == 0 ? "+" : "-").append(maybe()).append(term(depth));
        }
        return s.toString();
    }

    private String term(int depth) {
        StringBuilder s = new StringBuilder(atom(depth));
        while (upTo(5) == 0) {
            s.append(maybe()).append("*").append(maybe()).append(atom(depth));
        }
        return s.toString();
    }

    private String atom(int depth) {
        int k = upTo(8);
        if (k < 3) {
            return "" + (upTo(12) == 0 ? upTo(1000) : upTo(7));
        }
        return k == 3 && depth < 6 ? "(" + maybe() + sum(depth + 1) + maybe() + ")" : WORDS[upTo(WORDS.length)];
    }

    private String unit(int depth) {
        int k = upTo(9);
        if (k == 0 && depth < 6) {
            return "not" + blank() + unit(depth + 1);
        }
        if (k == 1 && depth < 6) {
            return "[" + maybe() + truth(depth + 1) + maybe() + "]";
        }
        return sum(depth) + maybe() + "=<>".charAt(upTo(3)) + maybe() + sum(depth);
    }

    private String truth(int depth) {
        StringBuilder s = new StringBuilder(unit(depth));
        while (upTo(4) == 0) {
            s.append(blank()).append(upTo(2) == 0 ? "and" : "or").append(blank()).append(unit(depth));
        }
        return s.toString();
    }

    private String kindRule() {
        String[] rules = {"doors < " + (2 + upTo(3)), "threes = 0", "fours < " + (1 + upTo(3)), "far < " + (2 + upTo(4)),
            "colours < " + (2 + upTo(3)), "halves = 1 or doors < 3", "feast > " + upTo(4), "pairs < " + (4 + upTo(12)),
            "houses < " + (6 + upTo(6)), "not doors = " + upTo(4)};
        return rules[upTo(rules.length)];
    }

    private String text() {
        int most = upTo(3) == 0 ? 11 : 7;
        int n = upTo(most + 1);
        StringBuilder s = new StringBuilder();
        if (n > 0) {
            int first = 1 + upTo(n);
            s.append("houses").append(maybe()).append(first).append(maybe()).append(";").append(maybe());
            if (first < n) {
                s.append("houses ").append(n - first).append(";");
            }
        }
        Model.Graph told = new Model.Graph();
        int doors = n < 2 ? 0 : upTo(upTo(2) == 0 ? n + 2 : 2 * n + 2);
        for (int i = 0; i < doors; i++) {
            int a = upTo(n);
            int b = upTo(n);
            if (a != b && !told.door[a][b]) {
                told.set(a, b, true);
                s.append("door ").append(a).append(blank()).append(b).append(";");
            }
        }
        if (n >= 3 && upTo(3) == 0) {
            s.append(ring(n));
        }
        int rules = upTo(3) == 0 ? 0 : upTo(8) == 0 ? upTo(7) : upTo(4);
        for (int i = 0; i < rules; i++) {
            s.append("rule").append(maybe()).append(":").append(maybe())
                    .append(upTo(2) == 0 ? kindRule() : truth(0)).append(";").append(maybe());
        }
        return s.length() > 800 ? text() : s.toString();
    }

    private String ring(int n) {
        StringBuilder s = new StringBuilder("ring");
        int taken = 0;
        int size = 3 + upTo(n - 2);
        while (Integer.bitCount(taken) < size) {
            int h = upTo(n);
            if ((taken >> h & 1) == 0) {
                taken |= 1 << h;
                s.append(" ").append(h);
            }
        }
        return s.append(";").toString();
    }

    private String spoilt(String text) {
        String[] bits = {";", ":", "0", "1", "7", "12", "999", "1000", "(", ")", "[", "]", "not ", " and ", " or ", "rule:",
            "houses 3;", "door 0 1;", "ring 0 1 2;", ",", "A", "\t", "" + (char) 200, "=", "<", "+", "-", "*", " far ",
            "ring ", "door ", " town", "\n", "not not not not not not not 1=1", "((((((((1", "[[[[[[[[1=1"};
        StringBuilder s = new StringBuilder(text);
        for (int i = 0; i <= upTo(3); i++) {
            int at = upTo(s.length() + 1);
            int kind = upTo(3);
            if (kind == 0 && s.length() > 0) {
                s.deleteCharAt(Math.min(at, s.length() - 1));
            } else if (kind == 1) {
                s.setLength(at);
            } else {
                s.insert(at, bits[upTo(bits.length)]);
            }
        }
        return s.toString();
    }

    private void tellTown() {
        String text = text();
        if (upTo(4) == 0) {
            text = spoilt(text);
        }
        if (text.length() > 900 - m.tape.length()) {
            return;
        }
        int before = m.tape.length();
        for (int at = 0; at < text.length() && m.tape.length() <= 880; at += 20) {
            int[] v = new int[5];
            for (int i = 0; i < 20; i++) {
                v[i / 4] = v[i / 4] << 8 | (at + i < text.length() ? text.charAt(at + i) : ' ') & 255;
            }
            Due.is(2, run + "feed", x.feed(v[0], v[1], v[2], v[3], v[4]), m.feed(v));
        }
        int n = upTo(12) == 0 ? upTo(60) - 5 : upTo(20) == 0 ? odd() : before + text.length();
        Due.is(3, run + "town: " + text, x.town(n), m.town(n));
        for (int what = -1; what < 3; what++) {
            Due.is(4, run + "fault(" + what + "): " + text, x.fault(what), m.fault(what));
        }
    }

    // ---- calls

    private int odd() {
        int[] odd = {Integer.MIN_VALUE, Integer.MAX_VALUE, Integer.MIN_VALUE + 1, 1 << 16, -1, 31, 32, 33, 255, 256};
        return upTo(2) == 0 ? odd[upTo(odd.length)] : upTo(40) - 20;
    }

    private int h() {
        return upTo(12) == 0 ? odd() : m.g.n == 0 ? 0 : upTo(m.g.n);
    }

    private int what(int most) {
        return upTo(10) == 0 ? odd() : upTo(most + 1);
    }

    private int cost() {
        return upTo(20) == 0 ? odd() : upTo(10) == 0 ? upTo(300) - 100 : upTo(3) == 0 ? upTo(100) : upTo(25);
    }

    private void go(int calls) {
        tellTown();
        for (int i = 0; i < calls; i++) {
            int k = upTo(60);
            if (k < 8) {
                askTown();
            } else if (k < 26) {
                doDeed();
            } else if (k < 46) {
                askGraph();
            } else if (k < 58) {
                askRows();
            } else if (upTo(4) == 0) {
                tellTown();
            }
            Due.is(54, run + "count(1)", x.count(1), m.count(1));
        }
        for (int what = -1; what < 9; what++) {
            Due.is(54, run + "count(" + what + ")", x.count(what), m.count(what));
        }
        for (int h = 0; h < m.g.n; h++) {
            Due.is(5, run + "house(" + h + ", 1)", x.house(h, 1), m.house(h, 1));
        }
    }

    private void askTown() {
        int a = h();
        int b = h();
        int what = what(6);
        switch (upTo(6)) {
            case 0:
                Due.is(5, run + "house(" + a + ", " + what + ")", x.house(a, what), m.house(a, what));
                break;
            case 1:
                Due.is(6, run + "steps(" + a + ", " + b + ")", x.steps(a, b), m.steps(a, b));
                break;
            case 2:
                Due.is(7, run + "holds(" + what + ", " + b + ")", x.holds(what, b), m.holds(what, b));
                break;
            case 3:
                Due.is(8, run + "broken(" + what % 3 + ")", x.broken(what % 3), m.broken(what % 3));
                break;
            case 4:
                Due.is(9, run + "breaches()", x.breaches(), m.breaches());
                break;
            default:
                Due.is(54, run + "count(" + what + ")", x.count(what), m.count(what));
                break;
        }
    }

    private void doDeed() {
        int a = h();
        int b = h();
        int n = what(8);
        switch (upTo(18)) {
            case 0:
                Due.is(10, run + "why(" + a + ", " + b + ")", x.why(a, b), m.why(a, b));
                break;
            case 1:
            case 2:
            case 3:
                Due.is(11, run + "join(" + a + ", " + b + ")", x.join(a, b), m.join(a, b));
                break;
            case 4:
            case 5:
                Due.is(12, run + "wall(" + a + ", " + b + ")", x.wall(a, b), m.wall(a, b));
                break;
            case 6:
                Due.is(13, run + "may(" + a + ")", x.may(a), m.may(a));
                break;
            case 7:
            case 8:
                int set = upTo(8) == 0 ? random.nextInt() : upTo(1 << m.g.n) & upTo(1 << m.g.n) & upTo(1 << m.g.n);
                Due.is(14, run + "enter(" + set + ")", x.enter(set), m.enter(set));
                break;
            case 9:
                Due.is(15, run + "leave(" + a + ")", x.leave(a), m.leave(a));
                break;
            case 10:
                if (upTo(4) == 0 || m.g.n > 5) {
                    Due.is(16, run + "weave()", x.weave(), m.weave());
                }
                break;
            case 11:
            case 12:
                Due.is(17, run + "undo(" + n + ")", x.undo(n), m.undo(n));
                break;
            case 13:
            case 14:
                fillActs();
                break;
            case 15:
                if (m.rules.isEmpty() || m.g.n < 6 || upTo(20) == 0) {
                    int many = what(3);
                    Due.is(20, run + "grow(" + many + ")", x.grow(many), m.grow(many));
                }
                break;
            default:
                int seed = random.nextInt();
                int times = upTo(20) == 0 ? odd() : upTo(8) == 0 ? upTo(80) - 10 : upTo(20);
                Due.is(21, run + "century(" + seed + ", " + times + ")", x.century(seed, times), m.century(seed, times));
                break;
        }
    }

    private void fillActs() {
        int row = upTo(4);
        int sort = upTo(6) == 0 ? 0 : 1 + upTo(3);
        int n = upTo(6);
        Due.is(49, run + "numbers", x.numbers(row, sort, n), m.numbers(row, sort, n));
        for (int i = 0; i < n; i++) {
            long v = upTo(15) == 0 ? random.nextLong() >> upTo(64) : 100L * h() + h();
            Due.is(50, run + "write", x.write(row, i, v), m.write(row, i, v));
        }
        for (int what = -1; what < 5; what++) {
            Due.is(18, run + "judge(" + row + ", " + what + ")", x.judge(row, what), m.judge(row, what));
        }
        if (upTo(2) == 0) {
            Due.is(19, run + "perform(" + row + ")", x.perform(row), m.perform(row));
        }
    }

    private void askGraph() {
        int a = h();
        int what = what(1);
        int cost = cost();
        boolean small = m.g.n < 8 || upTo(12) == 0;
        switch (upTo(28)) {
            case 0:
                int k = what(8) - 1;
                Due.is(22, run + "three(" + k + ")", x.three(k), m.three(k));
                break;
            case 1:
                Due.is(23, run + "fours()", x.fours(), m.fours());
                break;
            case 2:
                Due.is(24, run + "scandal()", x.scandal(), m.scandal());
                break;
            case 3:
                Due.is(25, run + "halves()", x.halves(), m.halves());
                break;
            case 4:
                Due.is(26, run + "strangers()", x.strangers(), m.strangers());
                break;
            case 5:
                Due.is(27, run + "six(" + what + ")", x.six(what), m.six(what));
                break;
            case 6:
                Due.is(28, run + "feasts()", x.feasts(), m.feasts());
                break;
            case 7:
                Due.is(29, run + "full()", x.full(), m.full());
                break;
            case 8:
                int guest = upTo(3) == 0 ? -1 : a;
                Due.is(30, run + "feast(" + guest + ")", x.feast(guest), m.feast(guest));
                break;
            case 9:
                Due.is(31, run + "colours()", x.colours(), m.colours());
                break;
            case 10:
                Due.is(32, run + "colour(" + a + ")", x.colour(a), m.colour(a));
                break;
            case 11:
            case 12:
                int c = what(6);
                Due.is(33, run + "ways(" + c + ")", x.ways(c), m.ways(c));
                break;
            case 13:
                Due.is(34, run + "dear()", x.dear(), m.dear());
                break;
            case 14:
            case 15:
                if (small) {
                    Due.is(35, run + "telling(" + a + ")", x.telling(a), m.telling(a));
                }
                break;
            case 16:
                if (small) {
                    Due.is(36, run + "teller()", x.teller(), m.teller());
                }
                break;
            case 17:
                int n = what(4);
                Due.is(37, run + "safe(" + a + ", " + n + ")", x.safe(a, n), m.safe(a, n));
                break;
            case 18:
                Due.is(38, run + "wide(" + what + ")", x.wide(what), m.wide(what));
                break;
            case 19:
                Due.is(39, run + "mark()", x.mark(), m.mark());
                break;
            case 20:
                if (m.g.n != 8 || small) {
                    Due.is(40, run + "selves()", x.selves(), m.selves());
                }
                break;
            case 21:
                if (m.g.n != 8 || small) {
                    Due.is(41, run + "alike(" + what + ")", x.alike(what), m.alike(what));
                }
                break;
            case 22:
            case 23:
                int which = upTo(3) == 0 ? 0 : 8 + upTo(9);
                if (m.g.doors() < 13) {
                    Due.is(44, run + "cure(" + which + ")", x.cure(which), m.cure(which));
                }
                break;
            case 24:
                Due.is(45, run + "pay(" + a + ", " + cost + ")", x.pay(a, cost), m.pay(a, cost));
                break;
            case 25:
                Due.is(46, run + "atRest(" + cost + ")", x.atRest(cost), m.atRest(cost));
                break;
            case 26:
                int sort = what(2);
                if (m.rules.isEmpty() || m.g.n < 8) {
                    Due.is(47, run + "changing(" + cost + ", " + sort + ")", x.changing(cost, sort), m.changing(cost, sort));
                }
                break;
            default:
                if (m.rules.isEmpty() || m.g.n < 7) {
                    Due.is(48, run + "dearness()", x.dearness(), m.dearness());
                }
                break;
        }
    }

    private void askRows() {
        int row = what(3);
        int i = what(1);
        switch (upTo(6)) {
            case 0:
                int sort = what(3);
                int n = upTo(8) == 0 ? odd() : upTo(60) - 8;
                Due.is(49, run + "numbers", x.numbers(row, sort, n), m.numbers(row, sort, n));
                break;
            case 1:
            case 2:
                int place = what(8);
                long v = random.nextLong() >> upTo(64);
                Due.is(50, run + "write", x.write(row, place, v), m.write(row, place, v));
                break;
            case 3:
                Due.is(51, run + "copy(" + row + ")", x.copy(row), m.copy(row));
                if (m.rules.isEmpty()) {
                    for (int what = 0; what < 4; what++) {
                        Due.is(51, run + "judge of copy", x.judge(row, what), m.judge(row, what));
                    }
                }
                break;
            case 4:
                Due.is(52, run + "image(" + i + ")", x.image(i), m.image(i));
                break;
            default:
                Due.is(53, run + "restore(" + i + ")", x.restore(i), m.restore(i));
                break;
        }
    }
}
