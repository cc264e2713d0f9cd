/** Promises 10 to 21: deeds, told ones, grown ones, drawn ones, and what is undone. */
final class DeedsTest {
    public static void main(String[] args) {
        whyAndJoin();
        joinByRules();
        wall();
        may();
        enter();
        leave();
        weave();
        undo();
        judgeAndPerform();
        grow();
        century();
        Due.end();
    }

    private static void whyAndJoin() {
        NoThree x = Due.town("houses 5;door 0 1;door 1 2;");
        int[][] refused = {{0, 0, 1}, {0, 5, 1}, {-1, 0, 1}, {5, 5, 1}, {0, 1, 2}, {2, 1, 2}, {0, 2, 3}};
        for (int[] r : refused) {
            Due.is(10, "why(" + r[0] + ", " + r[1] + ")", x.why(r[0], r[1]), r[2]);
            Due.is(11, "join(" + r[0] + ", " + r[1] + ")", x.join(r[0], r[1]), -10 - r[2]);
        }
        Due.is(11, "nothing is changed", x.count(1), 2);
        Due.is(11, "no deed", x.count(3), 0);
        Due.is(10, "why(4, 0)", x.why(4, 0), 0);
        Due.is(11, "join(4, 0)", x.join(4, 0), 3);
        Due.is(11, "neighbours", x.house(0, 1), 18);
        Due.is(11, "a deed", x.count(3), 1);
        // A three that is there already hinders nobody else.
        NoThree y = Due.town("houses 5;ring 0 1 2;");
        Due.is(10, "why(3, 4)", y.why(3, 4), 0);
        Due.is(10, "why(2, 3)", y.why(2, 3), 0);
        Due.is(11, "join(2, 3)", y.join(2, 3), 4);
        Due.is(10, "why(0, 3)", y.why(0, 3), 3);
    }

    private static void joinByRules() {
        NoThree x = Due.town("houses 4;rule: doors < 2;rule: pairs = 5;");
        Due.is(10, "a rule that doesn't hold hinders nobody", x.why(0, 1), 0);
        x.join(0, 1);
        Due.is(10, "a rule that holds", x.why(1, 2), 4);
        Due.is(11, "a rule that holds", x.join(1, 2), -14);
        Due.is(10, "a door is told first", x.why(0, 1), 2);
        Due.is(11, "others", x.join(2, 3), 2);
        // The rule is broken for a house that has no part in it.
        NoThree y = Due.town("houses 5;door 0 1;door 2 3;rule: far < 2;");
        Due.is(10, "far away", y.why(1, 2), 4);
        Due.is(10, "one alone", y.why(4, 0), 4);
        NoThree z = Due.town("houses 3;door 0 1;door 1 2;rule: doors < 2;");
        Due.is(10, "three ahead of rules", z.why(0, 2), 3);
        // House 1 breaks the rule already; house 3 would still keep it.
        NoThree w = Due.town("houses 4;door 0 1;door 1 2;rule: doors < 2;");
        Due.is(10, "broken already", w.why(1, 3), 0);
        NoThree colours = Due.town("houses 5;door 0 1;door 1 2;door 2 3;door 3 4;rule: colours < 3;");
        Due.is(10, "a third colour", colours.why(0, 4), 4);
        Due.is(10, "two colours do", colours.why(0, 3), 0);
        NoThree feast = Due.town("houses 3;rule: feast > 2;");
        Due.is(10, "a feast less", feast.why(0, 1), 4);
        NoThree halves = Due.town("houses 5;door 0 1;door 1 2;door 2 3;door 3 4;rule: halves = 1;");
        Due.is(10, "no halves", halves.why(4, 0), 4);
        NoThree fours = Due.town("houses 4;door 0 1;door 1 2;door 2 3;rule: fours = 0;");
        Due.is(10, "a four", fours.why(3, 0), 4);
    }

    private static void wall() {
        NoThree x = Due.town("houses 3;door 0 1;door 1 2;rule: doors > 0;");
        Due.is(12, "wall(0, 2)", x.wall(0, 2), -15);
        Due.is(12, "wall(1, 1)", x.wall(1, 1), -11);
        Due.is(12, "wall(0, 3)", x.wall(0, 3), -11);
        Due.is(12, "wall(-1, 0)", x.wall(-1, 0), -11);
        Due.is(12, "rules don't hinder", x.wall(1, 0), 1);
        Due.is(12, "house(1, 1)", x.house(1, 1), 4);
        Due.is(12, "a deed", x.count(3), 1);
        Due.is(12, "wall(0, 1)", x.wall(0, 1), -15);
    }

    private static void may() {
        NoThree x = Due.town("houses 6;door 0 1;door 1 2;door 4 5;rule: doors < 2;");
        Due.is(13, "may(0)", x.may(0), 0);
        Due.is(13, "may(1)", x.may(1), 8);
        Due.is(13, "may(3)", x.may(3), 2);
        Due.is(13, "may(4)", x.may(4), 0);
        Due.is(13, "may(6)", x.may(6), -2);
        Due.is(13, "may(-1)", x.may(-1), -2);
        NoThree y = Due.town("houses 5;door 0 1;door 1 2;");
        Due.is(13, "may(0)", y.may(0), 24);
        Due.is(13, "may(4)", y.may(4), 15);
    }

    private static void enter() {
        NoThree x = Due.town("houses 3;door 0 1;");
        Due.is(14, "enter(3)", x.enter(3), -13);
        Due.is(14, "enter(8)", x.enter(8), -11);
        Due.is(14, "enter(-1)", x.enter(-1), -11);
        Due.is(14, "enter(11)", x.enter(11), -11);
        Due.is(14, "enter(5)", x.enter(5), 3);
        Due.is(14, "house(3, 1)", x.house(3, 1), 5);
        Due.is(14, "house(0, 1)", x.house(0, 1), 10);
        Due.is(14, "enter(0)", x.enter(0), 4);
        Due.is(14, "deeds", x.count(3), 2);
        NoThree full = Due.town("houses 11;door 0 1;rule: houses < 12;");
        Due.is(14, "full", full.enter(0), -16);
        Due.is(14, "full, ahead of a three", full.enter(3), -16);
        Due.is(14, "a set, ahead of full", full.enter(1 << 11), -11);
        Due.is(14, "a set, ahead of full", full.enter(Integer.MIN_VALUE), -11);
        NoThree rules = Due.town("houses 2;rule: doors < 2;rule: far < 2;");
        Due.is(14, "the new one's rule", rules.enter(3), -14);
        Due.is(14, "may come", rules.enter(1), 2);
        Due.is(14, "an elder's rule", rules.enter(4), -14);
        Due.is(14, "may come", rules.enter(2), 3);
        // A rule that holds for none: it hinders the new one, not by the elders.
        NoThree none = Due.town("houses 2;rule: doors = 1;");
        Due.is(14, "the new one must keep it", none.enter(0), -14);
        Due.is(14, "the new one keeps it", none.enter(1), 2);
        Due.is(14, "an elder would lose it", none.enter(4), -14);
        Due.is(14, "three ahead of rules", none.enter(5), -13);
    }

    private static void leave() {
        NoThree x = Due.town("houses 5;ring 0 1 2 3 4;rule: doors = 2;");
        Due.is(15, "leave(5)", x.leave(5), -11);
        Due.is(15, "leave(-1)", x.leave(-1), -11);
        Due.is(15, "leave(1)", x.leave(1), 4);
        Due.is(15, "doors", x.count(1), 3);
        int[] near = {8, 4, 10, 5};
        for (int h = 0; h < 4; h++) {
            Due.is(15, "house(" + h + ", 1)", x.house(h, 1), near[h]);
        }
        Due.is(15, "leave(0)", x.leave(0), 3);
        Due.is(15, "leave(2)", x.leave(2), 2);
        Due.is(15, "house(0, 1)", x.house(0, 1), 2);
        Due.is(15, "leave(1)", x.leave(1), 1);
        Due.is(15, "leave(0)", x.leave(0), 0);
        Due.is(15, "leave(0)", x.leave(0), -11);
        Due.is(15, "deeds", x.count(3), 5);
        Due.is(15, "undo(5)", x.undo(5), 0);
        Due.is(15, "doors", x.count(1), 5);
    }

    private static void weave() {
        NoThree x = new NoThree();
        Due.is(16, "of none", x.weave(), 1);
        Due.is(16, "of one", x.weave(), 3);
        Due.is(16, "house(0, 1)", x.house(0, 1), 0);
        Due.is(16, "house(1, 1)", x.house(1, 1), 4);
        NoThree y = Due.town("houses 2;door 0 1;rule: doors < 2;");
        Due.is(16, "of two: a ring of five", y.weave(), 5);
        int[] near = {10, 5, 18, 17, 12};
        for (int h = 0; h < 5; h++) {
            Due.is(16, "house(" + h + ", 1)", y.house(h, 1), near[h]);
        }
        Due.is(16, "of five", y.weave(), 11);
        Due.is(16, "doors", y.count(1), 20);
        Due.is(16, "colours", y.colours(), 4);
        Due.is(16, "threes", y.count(4), 0);
        Due.is(16, "of eleven", y.weave(), -4);
        Due.is(16, "deeds", y.count(3), 2);
        Due.is(16, "undo(2)", y.undo(2), 0);
        Due.is(16, "houses", y.count(0), 2);
        Due.is(16, "of six", Due.town("houses 6;").weave(), -4);
    }

    private static void undo() {
        NoThree x = Due.town("houses 11;");
        Due.is(17, "undo(1)", x.undo(1), -3);
        for (int h = 1; h < 11; h++) {
            x.join(0, h);
        }
        for (int h = 1; h < 11; h++) {
            x.wall(0, h);
        }
        Due.is(17, "deeds", x.count(3), 12);
        Due.is(17, "undo(0)", x.undo(0), -3);
        Due.is(17, "undo(-1)", x.undo(-1), -3);
        Due.is(17, "undo(13)", x.undo(13), -3);
        Due.is(17, "undo(1)", x.undo(1), 11);
        Due.is(17, "the latest first", x.house(0, 1), 1 << 10);
        Due.is(17, "undo(12)", x.undo(12), -3);
        Due.is(17, "undo(11)", x.undo(11), 0);
        Due.is(17, "doors", x.count(1), 8);
        Due.is(17, "undo(1)", x.undo(1), -3);
        Due.is(17, "another", x.leave(0), 10);
        Due.is(17, "another", x.enter(3), 10);
        Due.is(17, "undo(1)", x.undo(1), 1);
        Due.is(17, "houses", x.count(0), 10);
        Due.is(17, "undo(1)", x.undo(1), 0);
        Due.is(17, "doors", x.house(0, 0), 8);
    }

    private static void row(NoThree x, int row, int sort, long... numbers) {
        x.numbers(row, sort, numbers.length);
        for (int i = 0; i < numbers.length; i++) {
            x.write(row, i, numbers[i]);
        }
    }

    private static void judged(NoThree x, int row, int... due) {
        for (int what = 0; what < 4; what++) {
            Due.is(18, "judge(" + row + ", " + what + ")", x.judge(row, what), due[what]);
        }
    }

    private static void judgeAndPerform() {
        NoThree x = Due.town("houses 5;ring 0 1 2;rule: doors < 4;");
        int[][] codes = {{-1, 0, -2}, {4, 0, -2}, {0, 4, -2}, {0, -1, -2}, {3, 4, -2}, {0, 0, -6}, {3, 3, -6}};
        for (int[] c : codes) {
            Due.is(18, "judge(" + c[0] + ", " + c[1] + ")", x.judge(c[0], c[1]), c[2]);
        }
        Due.is(19, "perform(-1)", x.perform(-1), -2);
        Due.is(19, "perform(4)", x.perform(4), -2);
        Due.is(19, "perform(0)", x.perform(0), -6);
        row(x, 0, 1);
        judged(x, 0, -1, 0, 3, 1);
        Due.is(19, "none", x.perform(0), 0);
        row(x, 0, 1, 304, 1, 3, 303, 4);
        judged(x, 0, 3, 1, 4, 0);
        Due.is(18, "nothing is done", x.count(1), 3);
        Due.is(18, "nothing is done", x.count(3), 0);
        Due.is(19, "perform(0)", x.perform(0), 3);
        Due.is(19, "doors", x.count(1), 4);
        Due.is(19, "deeds", x.count(3), 3);
        Due.is(19, "undo(3)", x.undo(3), 0);
        for (long bad : new long[] {-1, 0, 5, 500, 99, 100, 1200, -304, (1L << 40) + 304, Long.MIN_VALUE, Long.MAX_VALUE}) {
            row(x, 1, 3, 304, bad);
            int at = bad == 100 ? 2 : 1;
            int[] due = bad == 100 ? new int[] {-1, 0, 3, 0} : new int[] {at, 1, 4, 1};
            judged(x, 1, due);
        }
        row(x, 2, 1, 3, 4);
        judged(x, 2, 1, 4, 4, 1);
        row(x, 2, 1, 3, 103, 4);
        judged(x, 2, 1, 3, 4, 1);
        Due.is(19, "as far as they can", x.perform(2), 1);
        // The same pair again and again: walled, joined, walled.
        NoThree y = Due.town("houses 2;");
        row(y, 0, 0, 1, 100, 1, 100, 1);
        judged(y, 0, -1, 0, 1, 0);
        Due.is(19, "perform(0)", y.perform(0), 5);
        Due.is(19, "doors", y.count(1), 1);
        Due.is(18, "no houses", judgeWithoutHouses(), 1);
    }

    private static int judgeWithoutHouses() {
        NoThree x = new NoThree();
        x.numbers(0, 0, 1);
        return x.judge(0, 1);
    }

    private static void grow() {
        NoThree x = new NoThree();
        Due.is(20, "grow(0)", x.grow(0), -3);
        Due.is(20, "grow(12)", x.grow(12), -3);
        Due.is(20, "grow(4)", x.grow(4), 4);
        // House 1 joins 0; house 2 the least of both feasts of one, 0; house 3 joins 1 and 2.
        int[] near = {6, 9, 9, 6};
        for (int h = 0; h < 4; h++) {
            Due.is(20, "house(" + h + ", 1)", x.house(h, 1), near[h]);
        }
        Due.is(20, "deeds", x.count(3), 4);
        Due.is(20, "grow(11)", x.grow(11), 7);
        Due.is(20, "grow(1)", x.grow(1), 0);
        Due.is(20, "deeds", x.count(3), 11);
        Due.is(20, "undo(11)", x.undo(11), 0);
        NoThree rules = Due.town("houses 4;rule: doors < 3;");
        Due.is(20, "by rules", rules.grow(3), 3);
        Due.is(20, "two of four", rules.house(4, 1), 3);
        Due.is(20, "the least as bits", rules.house(5, 1), 3);
        Due.is(20, "others are full", rules.house(6, 1), 12);
        NoThree alone = Due.town("houses 2;rule: doors = 0;");
        Due.is(20, "none of the feasts but the empty one", alone.grow(2), 2);
        Due.is(20, "doors", alone.count(1), 0);
        NoThree stop = Due.town("houses 3;rule: houses < 6;");
        Due.is(20, "till one can't", stop.grow(11), 2);
        Due.is(20, "houses", stop.count(0), 5);
        NoThree smaller = Due.town("houses 3;rule: doors = 1;");
        Due.is(20, "a smaller feast", smaller.grow(1), 1);
        Due.is(20, "the least one of one", smaller.house(3, 1), 1);
    }

    private static int x;

    private static int draw() {
        x = 1103515245 * x + 12345;
        return x >>> 16;
    }

    private static void century() {
        Due.is(21, "no houses", new NoThree().century(1, 1), -5);
        Due.is(21, "times ahead of houses", new NoThree().century(1, 0), -3);
        Due.is(21, "61", Due.town("houses 2;").century(1, 61), -3);
        Due.is(21, "-1", Due.town("houses 2;").century(1, -1), -3);
        Due.is(21, "one alone", Due.town("houses 1;").century(7, 60), 0);
        for (int seed : new int[] {0, 1, -1, 12345, Integer.MIN_VALUE, Integer.MAX_VALUE}) {
            NoThree a = Due.town("houses 7;rule: doors < 4;");
            NoThree b = Due.town("houses 7;rule: doors < 4;");
            int done = a.century(seed, 60);
            x = seed;
            int due = 0;
            for (int i = 0; i < 60; i++) {
                int one = draw() % 7;
                int other = draw() % 7;
                int answer = draw() % 4 == 0 ? b.wall(one, other) : b.join(one, other);
                due += answer >= 0 ? 1 : 0;
            }
            Due.is(21, "century(" + seed + ", 60)", done, due);
            Due.is(21, "deeds", a.count(3), b.count(3));
            for (int h = 0; h < 7; h++) {
                Due.is(21, "house(" + h + ", 1)", a.house(h, 1), b.house(h, 1));
            }
        }
    }
}
