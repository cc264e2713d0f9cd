/** Promises 28 to 34: feasts and colours. */
final class FeastsTest {
    private static final String RING_7 = "houses 7;ring 0 1 2 3 4 5 6;";

    public static void main(String[] args) {
        feasts();
        full();
        feast();
        colours();
        colour();
        ways();
        dear();
        Due.end();
    }

    private static void feasts() {
        Due.is(28, "none", new NoThree().feasts(), 1);
        Due.is(28, "eleven alone", Due.town("houses 11;").feasts(), 2048);
        Due.is(28, "all eleven", Due.town(Due.complete(11)).feasts(), 12);
        Due.is(28, "a ring of seven", Due.town(RING_7).feasts(), 29);
        Due.is(28, "a way of four", Due.town("houses 4;door 0 1;door 1 2;door 2 3;").feasts(), 8);
    }

    private static void full() {
        Due.is(29, "none", new NoThree().full(), 1);
        Due.is(29, "eleven alone", Due.town("houses 11;").full(), 1);
        Due.is(29, "all eleven", Due.town(Due.complete(11)).full(), 11);
        Due.is(29, "a ring of seven", Due.town(RING_7).full(), 7);
        Due.is(29, "a way of four", Due.town("houses 4;door 0 1;door 1 2;door 2 3;").full(), 3);
    }

    private static void feast() {
        NoThree x = Due.town(RING_7);
        Due.is(30, "feast(-1)", x.feast(-1), 21);
        Due.is(30, "feast(1)", x.feast(1), 42);
        Due.is(30, "feast(3)", x.feast(3), 41);
        Due.is(30, "feast(6)", x.feast(6), 74);
        Due.is(30, "feast(7)", x.feast(7), -2);
        Due.is(30, "feast(-2)", x.feast(-2), -2);
        NoThree star = Due.town("houses 5;door 0 1;door 0 2;door 0 3;door 0 4;");
        Due.is(30, "without the middle", star.feast(-1), 30);
        Due.is(30, "the middle", star.feast(0), 1);
        Due.is(30, "no houses", new NoThree().feast(-1), 0);
        Due.is(30, "no houses", new NoThree().feast(0), -2);
    }

    private static void colours() {
        Due.is(31, "none", new NoThree().colours(), 0);
        Due.is(31, "alone", Due.town("houses 3;").colours(), 1);
        Due.is(31, "a door", Due.town("houses 3;door 1 2;").colours(), 2);
        Due.is(31, "a ring of seven", Due.town(RING_7).colours(), 3);
        for (int n = 1; n <= 11; n++) {
            Due.is(31, "all " + n, Due.town(Due.complete(n)).colours(), n);
        }
        Due.is(31, "a wheel", Due.town("houses 6;ring 0 1 2 3 4;door 5 0;door 5 1;door 5 2;door 5 3;door 5 4;").colours(), 4);
        NoThree woven = Due.town("houses 2;door 0 1;");
        woven.weave();
        woven.weave();
        Due.is(31, "woven twice", woven.colours(), 4);
    }

    private static void shades(String town, int... due) {
        NoThree x = Due.town(town);
        for (int h = 0; h < due.length; h++) {
            Due.is(32, "colour(" + h + "): " + town, x.colour(h), due[h]);
        }
        Due.is(32, "colour(none)", x.colour(due.length), -2);
        Due.is(32, "colour(-1)", x.colour(-1), -2);
    }

    private static void colour() {
        shades(RING_7, 0, 1, 0, 1, 0, 1, 2);
        shades("houses 3;", 0, 0, 0);
        shades("houses 4;door 0 1;door 1 2;door 2 3;", 0, 1, 0, 1);
        shades("houses 4;door 0 2;door 2 1;door 1 3;", 0, 0, 1, 1);
        // With the first colour for house 1, too, a third one would be needed.
        shades("houses 4;door 0 2;door 1 3;door 2 3;", 0, 1, 1, 0);
        shades("houses 6;door 0 3;door 0 4;door 1 3;door 1 5;door 2 4;door 2 5;", 0, 0, 0, 1, 1, 1);
        shades("houses 6;door 0 4;door 0 5;door 1 3;door 1 5;door 2 3;door 2 4;", 0, 0, 0, 1, 1, 1);
        shades("houses 6;door 0 1;door 2 3;door 4 5;door 1 2;door 3 4;", 0, 1, 0, 1, 0, 1);
        shades("houses 5;ring 0 1 2;ring 2 3 4;door 0 3;", 0, 1, 2, 1, 0);
    }

    private static void ways() {
        NoThree none = new NoThree();
        NoThree ring = Due.town(RING_7);
        NoThree alone = Due.town("houses 11;");
        NoThree all = Due.town(Due.complete(6));
        NoThree way = Due.town("houses 11;door 0 1;door 1 2;door 2 3;door 3 4;door 4 5;door 5 6;door 6 7;door 7 8;"
                + "door 8 9;door 9 10;");
        long falling = 720;
        for (int k = 0; k <= 6; k++) {
            Due.is(33, "none", none.ways(k), 1);
            Due.is(33, "a ring", ring.ways(k), power(k - 1, 7) - (k - 1));
            Due.is(33, "alone", alone.ways(k), power(k, 11));
            Due.is(33, "a way", way.ways(k), k * power(k - 1, 10));
            Due.is(33, "all six", all.ways(k), k == 6 ? falling : 0);
        }
        // The wheel of five spokes: k times the ring's ways with k - 1.
        NoThree wheel = Due.town("houses 6;ring 0 1 2 3 4;door 5 0;door 5 1;door 5 2;door 5 3;door 5 4;");
        Due.is(33, "a wheel", wheel.ways(6), 6 * (1024 - 4));
        Due.is(33, "ways(-1)", none.ways(-1), -3);
        Due.is(33, "ways(7)", none.ways(7), -3);
    }

    private static long power(long base, int times) {
        long p = 1;
        for (int i = 0; i < times; i++) {
            p *= base;
        }
        return p;
    }

    private static void dear() {
        Due.is(34, "none", new NoThree().dear(), -1);
        Due.is(34, "one", Due.town("houses 1;").dear(), 0);
        Due.is(34, "two alone", Due.town("houses 2;").dear(), -1);
        Due.is(34, "a way", Due.town("houses 4;door 1 2;door 2 3;").dear(), 2);
        Due.is(34, "two doors", Due.town("houses 4;door 0 1;door 2 3;").dear(), -1);
        Due.is(34, "a ring of five behind", Due.town("houses 7;ring 2 3 4 5 6;door 0 1;").dear(), 2);
        Due.is(34, "all four", Due.town(Due.complete(4)).dear(), 0);
    }
}
