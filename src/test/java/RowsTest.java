/** Promises 49 to 54: rows of numbers, images, counts. */
final class RowsTest {
    public static void main(String[] args) {
        numbers();
        write();
        copy();
        image();
        restoreAll();
        restoreManyDeeds();
        count();
        Due.end();
    }

    private static void numbers() {
        NoThree x = new NoThree();
        int[][] due = {{-1, 0, 0, -2}, {4, 0, 0, -2}, {0, -1, 0, -2}, {0, 4, 0, -2}, {0, 4, 41, -2}, {0, 0, -1, -3},
            {0, 0, 41, -3}, {0, 0, 0, 0}, {1, 1, 40, 0}, {2, 2, 1, 0}, {3, 3, 7, 0}};
        for (int[] d : due) {
            Due.is(49, "numbers(" + d[0] + ", " + d[1] + ", " + d[2] + ")", x.numbers(d[0], d[1], d[2]), d[3]);
        }
        Due.is(49, "none", x.write(0, 0, 1), -7);
        Due.is(49, "forty", x.write(1, 39, 1), 1);
        Due.is(49, "the row stays", x.numbers(1, 1, 41), -3);
        x.numbers(1, 0, 3);
        Due.is(49, "another in its place", x.write(1, 3, 1), -7);
        Due.is(49, "another sort", x.write(1, 2, 300), 44);
        Due.is(49, "all 0", zeroes(), 1);
    }

    /** Numbers of a new row are 0, which is no pair of houses; those of the old one were pairs. */
    private static int zeroes() {
        NoThree x = Due.town("houses 3;");
        x.numbers(0, 1, 2);
        x.write(0, 0, 1);
        x.write(0, 1, 1);
        x.numbers(0, 1, 2);
        return x.judge(0, 0) == 0 && x.judge(0, 1) == 1 ? 1 : 0;
    }

    private static void write() {
        NoThree x = new NoThree();
        Due.is(50, "write(-1)", x.write(-1, 0, 0), -2);
        Due.is(50, "write(4)", x.write(4, 0, 0), -2);
        Due.is(50, "missing", x.write(0, 0, 0), -6);
        Due.is(50, "missing, ahead of the place", x.write(0, -1, 0), -6);
        long[] wide = {0, -1, 127, 128, 255, 256, 32767, 32768, 65535, Integer.MAX_VALUE, 1L << 31, 1L << 32, Long.MIN_VALUE,
            Long.MAX_VALUE, 0x123456789ABCDEFL};
        for (int sort = 0; sort < 4; sort++) {
            x.numbers(sort, sort, 2);
            Due.is(50, "place -1", x.write(sort, -1, 0), -7);
            Due.is(50, "place 2", x.write(sort, 2, 0), -7);
            for (long v : wide) {
                long due = sort == 0 ? (byte) v : sort == 1 ? (short) v : sort == 2 ? (int) v : v;
                Due.is(50, "write of sort " + sort, x.write(sort, 1, v), due);
            }
        }
    }

    private static void copy() {
        NoThree x = Due.town("houses 11;door 10 9;door 0 10;door 3 1;door 0 2;");
        Due.is(51, "copy(-1)", x.copy(-1), -2);
        Due.is(51, "copy(4)", x.copy(4), -2);
        Due.is(51, "copy(0)", x.copy(0), -6);
        x.numbers(0, 1, 6);
        Due.is(51, "all", x.copy(0), 4);
        // The doors are walled in order; then come 0 and 0, no pairs.
        Due.is(51, "in order", x.judge(0, 0), 4);
        Due.is(51, "in order", x.judge(0, 2), 0);
        x.numbers(0, 1, 3);
        Due.is(51, "as many as there are places", x.copy(0), 3);
        Due.is(51, "the first ones", x.perform(0), 3);
        Due.is(51, "the last is left", x.house(9, 1), 1024);
        x.numbers(0, 1, 0);
        Due.is(51, "no places", x.copy(0), 0);
        x.numbers(0, 3, 2);
        x.write(0, 1, 708);
        Due.is(51, "one", x.copy(0), 1);
        Due.is(51, "the others stay", x.judge(0, 2), 1);
        Due.is(51, "the others stay", x.judge(0, 1), 0);
        // 910 is cut to 8 bits, -114: no pair.
        x.numbers(0, 0, 1);
        Due.is(51, "cut", x.copy(0), 1);
        Due.is(51, "cut", x.judge(0, 1), 1);
    }

    private static void image() {
        NoThree x = Due.town("houses 3;door 0 1;");
        Due.is(52, "image(2)", x.image(2), -2);
        Due.is(52, "image(-1)", x.image(-1), -2);
        Due.is(52, "image(1)", x.image(1), 0);
        Due.is(53, "restore(0)", x.restore(0), -5);
        Due.is(53, "restore(2)", x.restore(2), -2);
        Due.is(53, "restore(-1)", x.restore(-1), -2);
        x.join(1, 2);
        Due.is(52, "image(0)", x.image(0), 0);
        x.leave(0);
        Due.is(53, "restore(1)", x.restore(1), 0);
        Due.is(53, "doors", x.count(1), 1);
        Due.is(53, "deeds", x.count(3), 0);
        Due.is(53, "restore(0)", x.restore(0), 0);
        Due.is(53, "doors", x.count(1), 2);
        Due.is(53, "deeds", x.count(3), 1);
        Due.is(53, "undo(1)", x.undo(1), 0);
        Due.is(53, "doors", x.count(1), 1);
        Due.is(53, "again", x.restore(0), 0);
        Due.is(53, "deeds", x.count(3), 1);
        x.wall(0, 1);
        Due.is(52, "another in its place", x.image(0), 0);
        x.wall(1, 2);
        x.restore(0);
        Due.is(53, "doors", x.count(1), 1);
        Due.is(53, "undo(2)", x.undo(2), 0);
        Due.is(53, "doors", x.count(1), 1);
    }

    private static void restoreAll() {
        NoThree x = Due.town("houses 4;rule: doors < 2;rule: houses = 4;");
        x.numbers(0, 0, 1);
        x.image(0);
        Due.feed(x, "houses 9;ring 0 1 2;rule: doors > 0 and far = 1;");
        Due.is(53, "town", x.town(20), 2);
        Due.is(53, "a fault", Due.tell(x, "x"), -32);
        Due.feed(x, "some bytes");
        Due.is(53, "restore(0)", x.restore(0), 0);
        Due.is(53, "houses", x.count(0), 4);
        Due.is(53, "rules", x.count(2), 2);
        Due.is(53, "lines", x.count(7), 3);
        Due.is(53, "a rule", x.holds(0, 3), 1);
        Due.is(53, "a rule", x.enter(0), -14);
        Due.is(53, "the tape stays", x.count(6), 20);
        Due.is(53, "the fault stays", x.fault(0), 2);
        Due.is(53, "the rows stay", x.write(0, 0, 5), 5);
        // Thirteen deeds, of which twelve are in the image.
        NoThree y = Due.town("houses 2;");
        for (int i = 0; i < 13; i++) {
            y.join(0, 1);
            y.image(1);
            y.wall(0, 1);
        }
        y.restore(1);
        Due.is(53, "deeds", y.count(3), 12);
        Due.is(53, "undo(11)", y.undo(11), 1);
        Due.is(53, "doors", y.count(1), 0);
        Due.is(53, "undo(1)", y.undo(1), 0);
        Due.is(53, "doors", y.count(1), 1);
    }

    /** After so many deeds all places for them have been used, in the image and behind it. */
    private static void restoreManyDeeds() {
        NoThree x = Due.town("houses 11;");
        for (int h = 1; h < 11; h++) {
            x.join(0, h);
        }
        for (int h = 1; h < 11; h++) {
            x.wall(0, h);
        }
        x.image(0);
        for (int i = 0; i < 20; i++) {
            x.leave(x.count(0) - 1);
            x.enter(0);
            x.century(i, 9);
        }
        x.restore(0);
        int near = 0;
        for (int h = 10; h > 0; h--) {
            Due.is(53, "deeds", x.undo(1), h + 1);
            near |= 1 << h;
            Due.is(53, "doors of house 0", x.house(0, 1), near);
        }
        Due.is(53, "undo(2)", x.undo(2), 0);
        Due.is(53, "doors of house 0", x.house(0, 1), 510);
    }

    private static void count() {
        NoThree x = Due.town("houses 7;ring 0 1 2;door 3 4;rule: 1 = 1;rule: 2 = 2;");
        x.join(5, 6);
        Due.feed(x, "houses");
        int[] due = {7, 5, 2, 1, 1, 3, 20, 5};
        for (int what = 0; what < 8; what++) {
            Due.is(54, "count(" + what + ")", x.count(what), due[what]);
        }
        Due.is(54, "count(8)", x.count(8), -1);
        Due.is(54, "count(-1)", x.count(-1), -1);
        Due.is(54, "count(min)", x.count(Integer.MIN_VALUE), -1);
    }
}
