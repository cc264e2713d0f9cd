import java.util.Random;

/** Promises 35 to 38: gossip. */
final class GossipTest {
    private static final String WAY_11 = "houses 11;door 0 1;door 1 2;door 2 3;door 3 4;door 4 5;door 5 6;door 6 7;"
            + "door 7 8;door 8 9;door 9 10;";

    public static void main(String[] args) {
        telling();
        teller();
        manyTowns();
        safe();
        wide();
        Due.end();
    }

    private static String star(int n) {
        StringBuilder s = new StringBuilder("houses " + n + ";");
        for (int h = 1; h < n; h++) {
            s.append("door 0 ").append(h).append(';');
        }
        return s.toString();
    }

    private static void telling() {
        Due.is(35, "one", Due.town("houses 1;").telling(0), 0);
        Due.is(35, "none", new NoThree().telling(0), -2);
        NoThree way = Due.town(WAY_11);
        int[] due = {10, 9, 8, 7, 6, 6, 6, 7, 8, 9, 10};
        for (int h = 0; h < 11; h++) {
            Due.is(35, "on a way, " + h, way.telling(h), due[h]);
        }
        Due.is(35, "telling(11)", way.telling(11), -2);
        Due.is(35, "telling(-1)", way.telling(-1), -2);
        Due.is(35, "the middle of a star", Due.town(star(11)).telling(0), 10);
        Due.is(35, "a star's end", Due.town(star(11)).telling(4), 10);
        int[] log = {0, 0, 1, 2, 2, 3, 3, 3, 3, 4, 4, 4};
        for (int n = 1; n <= 11; n++) {
            Due.is(35, "all " + n, Due.town(Due.complete(n)).telling(n - 1), log[n]);
        }
        Due.is(35, "apart", Due.town("houses 5;door 0 1;door 1 2;door 3 4;").telling(3), 1);
        Due.is(35, "apart", Due.town("houses 5;door 0 1;door 1 2;door 3 4;").telling(0), 2);
        Due.is(35, "two by nine", Due.town("houses 11;" + twoBy(9)).telling(0), 6);
    }

    private static String twoBy(int n) {
        StringBuilder s = new StringBuilder();
        for (int h = 0; h < n; h++) {
            s.append("door 0 ").append(h + 2).append(";door 1 ").append(h + 2).append(';');
        }
        return s.toString();
    }

    private static void teller() {
        Due.is(36, "none", new NoThree().teller(), -1);
        Due.is(36, "alone", Due.town("houses 3;").teller(), 0);
        Due.is(36, "a way", Due.town(WAY_11).teller(), 4);
        Due.is(36, "a star", Due.town(star(6)).teller(), 0);
        Due.is(36, "the larger part", Due.town("houses 6;door 0 1;door 2 3;door 3 4;door 4 5;").teller(), 3);
        Due.is(36, "the first part", Due.town("houses 6;door 1 2;door 2 3;door 0 4;door 4 5;").teller(), 0);
    }

    private static void manyTowns() {
        Random random = new Random(35);
        for (int i = 0; i < 60; i++) {
            Model m = new Model();
            m.g.n = 8 + random.nextInt(3);
            StringBuilder text = new StringBuilder("houses " + m.g.n + ";");
            for (int h = 1; h < m.g.n; h++) {
                int to = random.nextInt(h);
                m.g.set(h, to, true);
                text.append("door ").append(h).append(' ').append(to).append(';');
            }
            for (int more = random.nextInt(5); more > 0; more--) {
                int a = random.nextInt(m.g.n);
                int b = random.nextInt(m.g.n);
                if (a != b && !m.g.door[a][b]) {
                    m.g.set(a, b, true);
                    text.append("door ").append(a).append(' ').append(b).append(';');
                }
            }
            NoThree x = Due.town(text.toString());
            for (int h = 0; h < m.g.n; h++) {
                Due.is(35, "telling(" + h + "): " + text, x.telling(h), m.telling(h));
            }
            Due.is(36, "teller(): " + text, x.teller(), m.teller());
        }
    }

    private static void safe() {
        NoThree x = Due.town("houses 6;door 0 1;door 1 2;door 2 3;door 4 5;");
        Due.is(37, "safe(0, 0)", x.safe(0, 0), 62);
        Due.is(37, "safe(0, 1)", x.safe(0, 1), 60);
        Due.is(37, "safe(1, 1)", x.safe(1, 1), 56);
        Due.is(37, "safe(0, 3)", x.safe(0, 3), 48);
        Due.is(37, "safe(0, 10)", x.safe(0, 10), 48);
        Due.is(37, "safe(0, 11)", x.safe(0, 11), -3);
        Due.is(37, "safe(0, -1)", x.safe(0, -1), -3);
        Due.is(37, "safe(6, 0)", x.safe(6, 0), -2);
        Due.is(37, "safe(6, 11)", x.safe(6, 11), -2);
        Due.is(37, "on a way", Due.town(WAY_11).safe(0, 9), 1024);
        Due.is(37, "on a way", Due.town(WAY_11).safe(0, 10), 0);
    }

    private static void wide() {
        Due.is(38, "none", new NoThree().wide(0), -1);
        Due.is(38, "none", new NoThree().wide(1), -1);
        Due.is(38, "what, ahead of none", new NoThree().wide(2), -2);
        NoThree alone = Due.town("houses 4;");
        Due.is(38, "alone", alone.wide(0), 0);
        Due.is(38, "alone", alone.wide(1), -1);
        Due.is(38, "what", alone.wide(-1), -2);
        Due.is(38, "a way", Due.town(WAY_11).wide(0), 10);
        Due.is(38, "a way", Due.town(WAY_11).wide(1), 10);
        NoThree x = Due.town("houses 8;door 0 1;door 3 2;door 2 5;door 5 4;door 6 7;");
        Due.is(38, "the widest part", x.wide(0), 3);
        Due.is(38, "the widest part", x.wide(1), 304);
        NoThree ring = Due.town("houses 6;ring 0 1 2 3 4 5;");
        Due.is(38, "the first such two", ring.wide(1), 3);
    }
}
