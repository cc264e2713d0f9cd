import java.util.ArrayList;
import java.util.List;
import java.util.function.ToLongFunction;

/**
 * "Refused calls answer by a code and change nothing": of two objects that have had the same calls one is asked what is
 * refused, and then all that can be seen of both is the same. The promise's number is that of the refused call.
 */
final class RefusedCallsTest {
    /** A refused call, as it is told, with its code. */
    private static final class Refused {
        final int promise;
        final String call;
        final long code;
        final ToLongFunction<NoThree> ask;

        Refused(int promise, String call, long code, ToLongFunction<NoThree> ask) {
            this.promise = promise;
            this.call = call;
            this.code = code;
            this.ask = ask;
        }
    }

    private static final List<Refused> CALLS = new ArrayList<>();

    public static void main(String[] args) {
        everywhere();
        changeNothing("a new object", 0);
        changeNothing("a town", 1);
        changeNothing("a full town", 2);
        CALLS.clear();
        withoutHouses();
        changeNothing("a new object", 0);
        CALLS.clear();
        inATown();
        changeNothing("a town", 1);
        CALLS.clear();
        inAFullTown();
        changeNothing("a full town", 2);
        Due.end();
    }

    private static void refused(int promise, String call, long code, ToLongFunction<NoThree> ask) {
        CALLS.add(new Refused(promise, call, code, ask));
    }

    private static void changeNothing(String place, int kind) {
        for (Refused r : CALLS) {
            NoThree x = made(kind);
            NoThree y = made(kind);
            Due.is(r.promise, place + ", " + r.call, r.ask.applyAsLong(x), r.code);
            Due.is(r.promise, place + ", " + r.call + ", again", r.ask.applyAsLong(x), r.code);
            Due.is(r.promise, place + ", " + r.call + " changes nothing", seen(x).equals(seen(y)));
        }
    }

    /** A new object; a town with rules, deeds, rows, images, a fault and bytes on the tape; one with 11 houses. */
    private static NoThree made(int kind) {
        NoThree x = new NoThree();
        if (kind == 0) {
            return x;
        }
        Due.tell(x, kind == 1 ? "houses 7;ring 0 1 2;door 3 4;door 5 6;rule:doors<4;rule:pairs<8;rule:far<4;"
                : "houses 11;ring 0 1 2;ring 2 3 4 5;door 9 10;rule:doors<5;rule:houses=11;rule:halves=1;");
        x.image(0);
        if (kind == 1) {
            x.join(4, 5);
            x.enter(0);
            x.leave(7);
            x.wall(3, 4);
        } else {
            for (int i = 0; i < 14; i++) {
                if (i % 2 == 0) {
                    x.wall(9, 10);
                } else {
                    x.join(9, 10);
                }
            }
        }
        x.image(1);
        x.wall(0, 1);
        x.numbers(0, 1, 3);
        x.write(0, 0, 3);
        x.write(0, 1, 4);
        x.numbers(1, 3, kind == 1 ? 0 : 40);
        Due.tell(x, "houses 3;door 1 1;");
        Due.feed(x, "houses 2;door 0 1;  rule:1=1;");
        if (kind == 2) {
            while (x.count(6) < 900) {
                x.feed(0x20202020, 0x20202020, 0x20202020, 0x20202020, 0x20202020);
            }
        }
        return x;
    }

    /** All that can be seen of an object, which is used up by it. */
    private static List<Long> seen(NoThree x) {
        List<Long> all = new ArrayList<>();
        town(x, all);
        for (int row = 0; row < 4; row++) {
            for (int what = 0; what < 4; what++) {
                all.add((long) x.judge(row, what));
            }
            all.add(x.write(row, 0, 70000));
            all.add(x.write(row, 2, 70000));
            all.add(x.write(row, 39, 70000));
        }
        all.add((long) x.alike(0));
        all.add((long) x.alike(1));
        while (x.count(3) > 0) {
            all.add((long) x.undo(1));
            town(x, all);
        }
        for (int i = 0; i < 2; i++) {
            all.add((long) x.restore(i));
            town(x, all);
            while (x.count(3) > 0) {
                all.add((long) x.undo(1));
                all.add((long) x.count(1));
            }
        }
        all.add((long) x.town(x.count(6)));
        town(x, all);
        return all;
    }

    private static void town(NoThree x, List<Long> all) {
        for (int what = 0; what < 8; what++) {
            all.add((long) x.count(what));
        }
        all.add((long) x.fault(0));
        all.add((long) x.fault(1));
        all.add((long) x.breaches());
        all.add((long) x.may(0));
        for (int h = 0; h < x.count(0); h++) {
            all.add((long) x.house(h, 1));
        }
    }

    /** What is refused in any town. */
    private static void everywhere() {
        refused(3, "town(-1)", -3, x -> x.town(-1));
        refused(3, "town(901)", -3, x -> x.town(901));
        refused(3, "town(one more than there is)", -3, x -> x.town(x.count(6) + 1));
        refused(5, "house(-1, 0)", -2, x -> x.house(-1, 0));
        refused(5, "house(11, 0)", -2, x -> x.house(11, 0));
        refused(5, "house(0, 7)", -2, x -> x.house(0, 7));
        refused(6, "steps(0, 11)", -2, x -> x.steps(0, 11));
        refused(6, "steps(-1, 0)", -2, x -> x.steps(-1, 0));
        refused(7, "holds(6, 0)", -2, x -> x.holds(6, 0));
        refused(7, "holds(0, 11)", -2, x -> x.holds(0, 11));
        refused(8, "broken(2)", -2, x -> x.broken(2));
        refused(11, "join(0, 0)", -11, x -> x.join(0, 0));
        refused(11, "join(0, 11)", -11, x -> x.join(0, 11));
        refused(12, "wall(0, 0)", -11, x -> x.wall(0, 0));
        refused(12, "wall(-1, 0)", -11, x -> x.wall(-1, 0));
        refused(13, "may(11)", -2, x -> x.may(11));
        refused(14, "enter(-1)", -11, x -> x.enter(-1));
        refused(14, "enter(2048)", -11, x -> x.enter(2048));
        refused(15, "leave(-1)", -11, x -> x.leave(-1));
        refused(15, "leave(11)", -11, x -> x.leave(11));
        refused(17, "undo(0)", -3, x -> x.undo(0));
        refused(17, "undo(13)", -3, x -> x.undo(13));
        refused(18, "judge(4, 0)", -2, x -> x.judge(4, 0));
        refused(18, "judge(0, 4)", -2, x -> x.judge(0, 4));
        refused(18, "judge(3, 0)", -6, x -> x.judge(3, 0));
        refused(19, "perform(-1)", -2, x -> x.perform(-1));
        refused(19, "perform(3)", -6, x -> x.perform(3));
        refused(20, "grow(0)", -3, x -> x.grow(0));
        refused(20, "grow(12)", -3, x -> x.grow(12));
        refused(21, "century(1, 0)", -3, x -> x.century(1, 0));
        refused(21, "century(1, 61)", -3, x -> x.century(1, 61));
        refused(27, "six(2)", -2, x -> x.six(2));
        refused(30, "feast(11)", -2, x -> x.feast(11));
        refused(32, "colour(-1)", -2, x -> x.colour(-1));
        refused(33, "ways(7)", -3, x -> x.ways(7));
        refused(35, "telling(11)", -2, x -> x.telling(11));
        refused(37, "safe(11, 0)", -2, x -> x.safe(11, 0));
        refused(38, "wide(2)", -2, x -> x.wide(2));
        refused(41, "alike(2)", -2, x -> x.alike(2));
        refused(42, "unlike(6, true)", -3, x -> x.unlike(6, true));
        refused(43, "mostDoors(7, false)", -3, x -> x.mostDoors(7, false));
        refused(44, "cure(16)", -2, x -> x.cure(16));
        refused(45, "pay(11, 0)", -2, x -> x.pay(11, 0));
        refused(46, "atRest(100)", -3, x -> x.atRest(100));
        refused(47, "changing(0, 3)", -2, x -> x.changing(0, 3));
        refused(47, "changing(100, 0)", -3, x -> x.changing(100, 0));
        refused(49, "numbers(4, 0, 1)", -2, x -> x.numbers(4, 0, 1));
        refused(49, "numbers(0, 4, 1)", -2, x -> x.numbers(0, 4, 1));
        refused(49, "numbers(0, 0, 41)", -3, x -> x.numbers(0, 0, 41));
        refused(49, "numbers(3, 0, -1)", -3, x -> x.numbers(3, 0, -1));
        refused(50, "write(4, 0, 1)", -2, x -> x.write(4, 0, 1));
        refused(50, "write(3, 0, 1)", -6, x -> x.write(3, 0, 1));
        refused(51, "copy(4)", -2, x -> x.copy(4));
        refused(51, "copy(3)", -6, x -> x.copy(3));
        refused(52, "image(2)", -2, x -> x.image(2));
        refused(53, "restore(-1)", -2, x -> x.restore(-1));
    }

    private static void withoutHouses() {
        refused(3, "town(1)", -3, x -> x.town(1));
        refused(5, "house(0, 0)", -2, x -> x.house(0, 0));
        refused(11, "join(0, 1)", -11, x -> x.join(0, 1));
        refused(12, "wall(0, 1)", -11, x -> x.wall(0, 1));
        refused(14, "enter(1)", -11, x -> x.enter(1));
        refused(15, "leave(0)", -11, x -> x.leave(0));
        refused(17, "undo(1)", -3, x -> x.undo(1));
        refused(21, "century(1, 1)", -5, x -> x.century(1, 1));
        refused(41, "alike(0)", -5, x -> x.alike(0));
        refused(50, "write(0, 0, 1)", -6, x -> x.write(0, 0, 1));
        refused(53, "restore(0)", -5, x -> x.restore(0));
        refused(53, "restore(1)", -5, x -> x.restore(1));
    }

    private static void inATown() {
        refused(5, "house(7, 0)", -2, x -> x.house(7, 0));
        refused(7, "holds(3, 0)", -2, x -> x.holds(3, 0));
        refused(11, "join(1, 2)", -12, x -> x.join(1, 2));
        refused(11, "join(0, 1)", -13, x -> x.join(0, 1));
        refused(11, "join(3, 7)", -11, x -> x.join(3, 7));
        refused(11, "join(2, 4)", -14, x -> x.join(2, 4));
        refused(12, "wall(0, 1)", -15, x -> x.wall(0, 1));
        refused(14, "enter(128)", -11, x -> x.enter(128));
        refused(14, "enter(6)", -13, x -> x.enter(6));
        refused(14, "enter(73)", -14, x -> x.enter(73));
        refused(15, "leave(7)", -11, x -> x.leave(7));
        refused(16, "weave()", -4, x -> x.weave());
        refused(17, "undo(6)", -3, x -> x.undo(6));
        refused(37, "safe(0, 11)", -3, x -> x.safe(0, 11));
        refused(39, "mark()", -4, x -> x.mark());
        refused(45, "pay(0, 100)", -3, x -> x.pay(0, 100));
        refused(50, "write(0, 3, 1)", -7, x -> x.write(0, 3, 1));
        refused(50, "write(1, 0, 1)", -7, x -> x.write(1, 0, 1));
    }

    private static void inAFullTown() {
        refused(2, "feed", -5, x -> x.feed(1, 2, 3, 4, 5));
        refused(11, "join(2, 1)", -12, x -> x.join(2, 1));
        refused(14, "enter(0)", -16, x -> x.enter(0));
        refused(16, "weave()", -4, x -> x.weave());
        refused(39, "mark()", -4, x -> x.mark());
        refused(40, "selves()", -4, x -> x.selves());
        refused(41, "alike(0)", -4, x -> x.alike(0));
        refused(50, "write(1, 40, 1)", -7, x -> x.write(1, 40, 1));
    }
}
