/** Each call with all numbers at and around the bounds that the document names, in several towns; the model answers, too. */
final class SweepTest {
    private static final int[] NUMBERS = {Integer.MIN_VALUE, Integer.MIN_VALUE + 1, -65536, -100, -12, -3, -2, -1, 0, 1, 2, 3, 4, 5, 6,
        7, 8, 9, 10, 11, 12, 13, 15, 16, 31, 32, 33, 39, 40, 41, 59, 60, 61, 63, 64, 98, 99, 100, 127, 128, 255, 256, 511, 900, 901,
        1023, 1024, 2047, 2048, 32767, 32768, 65535, 65536, 1 << 30, Integer.MAX_VALUE};
    private static final long[] LONGS = {Long.MIN_VALUE, Long.MIN_VALUE + 1, -1L << 32, -65537, -129, -128, -1, 0, 1, 102, 127, 128, 255,
        256, 1000, 1100, 32767, 32768, 65536, 1L << 31, (1L << 32) + 1, Long.MAX_VALUE};
    private static final String[] TOWNS = {
        "",
        "houses 1;rule:doors=0;",
        "houses 2;door 0 1;rule:1=2;",
        "houses 5;ring 0 1 2 3 4;rule:doors<3;rule:colours<4;",
        "houses 6;ring 0 1 2;door 2 3;door 4 5;rule:threes=0;rule:far<3;",
        "houses 8;ring 0 1 2 3 4 5 6 7;rule:fours=0;",
        "houses 9;door 0 8;ring 1 2 3;ring 3 4 5;rule:pairs<9;rule:feast>3;rule:1=1;rule:halves=0;rule:houses=9;rule:2=2;",
        "houses 11;door 0 1;door 1 2;door 2 3;door 3 4;door 4 5;door 5 6;door 6 7;door 7 8;door 8 9;door 9 10;",
    };

    private final String told;
    private final int kind;
    private NoThree x;
    private Model m;

    private SweepTest(int kind) {
        this.kind = kind;
        told = "in town " + kind + ", ";
    }

    public static void main(String[] args) {
        for (int kind = 0; kind < TOWNS.length; kind++) {
            SweepTest t = new SweepTest(kind);
            t.oneNumber();
            t.twoNumbers();
            t.rows();
            t.deeds();
        }
        Due.end();
    }

    /** Both anew: a town with an image, a row of acts, a deed, a fault and bytes on the tape. */
    private void anew() {
        x = new NoThree();
        m = new Model();
        tell(TOWNS[kind]);
        x.join(0, kind - 1);
        m.join(0, kind - 1);
        x.image(kind % 2);
        m.image(kind % 2);
        x.numbers(1, 1, 4);
        m.numbers(1, 1, 4);
        for (int i = 0; i < 3; i++) {
            x.write(1, i, 102 * i + 3);
            m.write(1, i, 102 * i + 3);
        }
        tell("houses 3,");
        x.feed(0x3B202020, 0, 0, 0, 0);
        m.feed(0x3B202020, 0, 0, 0, 0);
    }

    private void tell(String text) {
        Due.feed(x, text);
        for (int at = 0; at < text.length(); at += 20) {
            int[] v = new int[5];
            for (int i = 0; i < 20; i++) {
                v[i / 4] = v[i / 4] << 8 | (at + i < text.length() ? text.charAt(at + i) : ' ');
            }
            m.feed(v);
        }
        Due.is(3, told + text, x.town(text.length()), m.town(text.length()));
    }

    private void is(int promise, String call, long got, long want) {
        Due.is(promise, told + call, got, want);
    }

    private void oneNumber() {
        anew();
        for (int n : NUMBERS) {
            is(4, "fault(" + n + ")", x.fault(n), m.fault(n));
            is(8, "broken(" + n + ")", x.broken(n), m.broken(n));
            is(13, "may(" + n + ")", x.may(n), m.may(n));
            is(22, "three(" + n + ")", x.three(n), m.three(n));
            is(27, "six(" + n + ")", x.six(n), m.six(n));
            is(30, "feast(" + n + ")", x.feast(n), m.feast(n));
        }
        anew();
        for (int n : NUMBERS) {
            is(32, "colour(" + n + ")", x.colour(n), m.colour(n));
            is(33, "ways(" + n + ")", x.ways(n), m.ways(n));
            is(38, "wide(" + n + ")", x.wide(n), m.wide(n));
            is(41, "alike(" + n + ")", x.alike(n), m.alike(n));
            is(44, "cure(" + n + ")", x.cure(n), m.cure(n));
            is(46, "atRest(" + n + ")", x.atRest(n), m.atRest(n));
            is(54, "count(" + n + ")", x.count(n), m.count(n));
        }
        anew();
        for (int n : NUMBERS) {
            is(42, "unlike(" + n + ", false)", x.unlike(n, false), n == 5 ? 14 : Model.unlike(n, false));
            is(42, "unlike(" + n + ", true)", x.unlike(n, true), n == 5 ? 11 : Model.unlike(n, true));
            is(43, "mostDoors(" + n + ", false)", x.mostDoors(n, false), n == 6 ? 9 : Model.mostDoors(n, false));
            is(43, "mostDoors(" + n + ", true)", x.mostDoors(n, true), n == 6 ? 6 : Model.mostDoors(n, true));
            if (m.g.n < 9 || n < 0 || n > 10) {
                is(35, "telling(" + n + ")", x.telling(n), m.telling(n));
            }
        }
    }

    private void twoNumbers() {
        for (int a : NUMBERS) {
            anew();
            for (int b : NUMBERS) {
                is(5, "house(" + a + ", " + b + ")", x.house(a, b), m.house(a, b));
                is(6, "steps(" + a + ", " + b + ")", x.steps(a, b), m.steps(a, b));
                is(7, "holds(" + a + ", " + b + ")", x.holds(a, b), m.holds(a, b));
                is(10, "why(" + a + ", " + b + ")", x.why(a, b), m.why(a, b));
                is(18, "judge(" + a + ", " + b + ")", x.judge(a, b), m.judge(a, b));
                is(37, "safe(" + a + ", " + b + ")", x.safe(a, b), m.safe(a, b));
                is(45, "pay(" + a + ", " + b + ")", x.pay(a, b), m.pay(a, b));
                if (kind != 6 || b < 0 || b > 2) {
                    is(47, "changing(" + a + ", " + b + ")", x.changing(a, b), m.changing(a, b));
                }
            }
        }
    }

    private void rows() {
        for (int a : NUMBERS) {
            for (int b = -1; b <= 4; b++) {
                anew();
                is(49, "numbers(" + b + ", 1, " + a + ")", x.numbers(b, 1, a), m.numbers(b, 1, a));
                is(51, "copy(" + b + ")", x.copy(b), m.copy(b));
                for (int row = -1; row <= 4; row++) {
                    is(18, "judge(" + row + ", 0)", x.judge(row, 0), m.judge(row, 0));
                    is(18, "judge(" + row + ", 2)", x.judge(row, 2), m.judge(row, 2));
                }
                is(49, "numbers(1, " + a + ", " + b + ")", x.numbers(1, a, b), m.numbers(1, a, b));
                for (long v : LONGS) {
                    is(50, "write(" + b + ", " + a + ", " + v + ")", x.write(b, a, v), m.write(b, a, v));
                    is(50, "write(1, " + b + ", " + v + ")", x.write(1, b, v), m.write(1, b, v));
                    is(18, "judge(1, 1)", x.judge(1, 1), m.judge(1, 1));
                }
            }
        }
    }

    private interface Deed {
        void done(int a, int b);
    }

    private void deeds() {
        each(true, (a, b) -> is(11, "join(" + a + ", " + b + ")", x.join(a, b), m.join(a, b)));
        each(true, (a, b) -> is(12, "wall(" + a + ", " + b + ")", x.wall(a, b), m.wall(a, b)));
        each(false, (a, b) -> is(14, "enter(" + a + ")", x.enter(a), m.enter(a)));
        each(false, (a, b) -> is(15, "leave(" + a + ")", x.leave(a), m.leave(a)));
        each(false, (a, b) -> is(17, "undo(" + a + ")", x.undo(a), m.undo(a)));
        each(false, (a, b) -> is(19, "perform(" + a + ")", x.perform(a), m.perform(a)));
        each(false, (a, b) -> is(21, "century(" + b + ", " + a + ")", x.century(b, a), m.century(b, a)));
        each(false, (a, b) -> is(21, "century(" + a + ", 9)", x.century(a, 9), m.century(a, 9)));
        each(false, (a, b) -> is(3, "town(" + a + ")", x.town(a), m.town(a)));
        each(false, (a, b) -> is(52, "image(" + a + ")", x.image(a), m.image(a)));
        each(false, (a, b) -> is(53, "restore(" + a + ")", x.restore(a), m.restore(a)));
        if (kind != 6) {
            each(false, (a, b) -> is(20, "grow(" + a + ")", x.grow(a), m.grow(a)));
        }
    }

    /** Each deed by itself, and what it left behind. */
    private void each(boolean two, Deed deed) {
        for (int a : NUMBERS) {
            for (int b : two ? NUMBERS : new int[] {a}) {
                if (two && (a < -1 || a > 11) && (b < -1 || b > 11) && a != b) {
                    continue;
                }
                anew();
                deed.done(a, b);
                deed.done(a, b);
                for (int what = 0; what < 8; what++) {
                    is(54, "count(" + what + ") behind a deed", x.count(what), m.count(what));
                }
                for (int h = 0; h <= m.g.n; h++) {
                    is(5, "house(" + h + ", 1) behind a deed", x.house(h, 1), m.house(h, 1));
                }
                is(4, "fault(1) behind a deed", x.fault(1), m.fault(1));
                is(17, "undo(1) behind a deed", x.undo(1), m.undo(1));
                is(54, "count(1) behind an undone one", x.count(1), m.count(1));
                for (int i = 0; i < 2; i++) {
                    is(53, "restore(" + i + ") behind a deed", x.restore(i), m.restore(i));
                    is(53, "doors in image " + i, x.count(1), m.count(1));
                    is(53, "deeds in image " + i, x.count(3), m.count(3));
                }
            }
        }
    }
}
