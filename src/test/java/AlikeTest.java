import java.util.Random;

/** Promises 39 to 43: marks, selves, towns that are alike, all unlike towns. */
final class AlikeTest {
    public static void main(String[] args) {
        mark();
        selves();
        alike();
        manyAlike();
        unlike();
        mostDoors();
        Due.end();
    }

    private static void mark() {
        Due.is(39, "none", new NoThree().mark(), 0);
        Due.is(39, "six alone", Due.town("houses 6;").mark(), 0);
        Due.is(39, "one door", Due.town("houses 6;door 4 5;").mark(), 1);
        Due.is(39, "a way of three", Due.town("houses 3;door 0 2;door 2 1;").mark(), 3);
        Due.is(39, "two doors", Due.town("houses 4;door 0 1;door 2 3;").mark(), 12);
        Due.is(39, "a ring of five", Due.town("houses 5;ring 0 1 2 3 4;").mark(), 236);
        Due.is(39, "all six", Due.town(Due.complete(6)).mark(), 32767);
        Due.is(39, "seven", Due.town("houses 7;").mark(), -4);
        Due.is(39, "rules aside", Due.town("houses 2;door 0 1;rule: 1 = 2;").mark(), 1);
    }

    private static void selves() {
        Due.is(40, "none", new NoThree().selves(), 1);
        Due.is(40, "one", Due.town("houses 1;").selves(), 1);
        Due.is(40, "eight alone", Due.town("houses 8;").selves(), 40320);
        Due.is(40, "all eight", Due.town(Due.complete(8)).selves(), 40320);
        Due.is(40, "nine", Due.town("houses 9;").selves(), -4);
        Due.is(40, "a ring of eight", Due.town("houses 8;ring 0 1 2 3 4 5 6 7;").selves(), 16);
        Due.is(40, "a cube", Due.town("houses 8;ring 0 1 2 3;ring 4 5 6 7;door 0 4;door 1 5;door 2 6;door 3 7;").selves(), 48);
        Due.is(40, "four doors", Due.town("houses 8;door 0 4;door 1 5;door 2 6;door 3 7;").selves(), 384);
        Due.is(40, "a way", Due.town("houses 4;door 3 1;door 1 2;door 2 0;").selves(), 2);
        Due.is(40, "none but itself", Due.town("houses 7;door 0 1;door 1 2;door 2 3;door 3 4;door 4 5;door 2 6;").selves(), 1);
    }

    private static int alike(String one, String other) {
        NoThree x = Due.town(one);
        x.image(1);
        Due.tell(x, other);
        return x.alike(1);
    }

    private static void alike() {
        NoThree x = Due.town("houses 9;");
        Due.is(41, "alike(2)", x.alike(2), -2);
        Due.is(41, "alike(-1)", x.alike(-1), -2);
        Due.is(41, "no image, ahead of too many", x.alike(0), -5);
        x.image(0);
        Due.is(41, "nine", x.alike(0), -4);
        Due.tell(x, "houses 2;");
        Due.is(41, "an image of nine", x.alike(0), -4);
        Due.is(41, "another image", x.alike(1), -5);
        Due.is(41, "now nine", alike("houses 2;", "houses 9;"), -4);
        Due.is(41, "none", alike("", ""), 1);
        Due.is(41, "another number of houses", alike("houses 3;", "houses 4;"), 0);
        Due.is(41, "numbered anew", alike("houses 5;ring 0 1 2 3 4;", "houses 5;ring 0 2 4 1 3;"), 1);
        Due.is(41, "rules aside", alike("houses 2;rule: 1 = 1;", "houses 2;"), 1);
        Due.is(41, "eight and two fours", alike("houses 8;ring 0 1 2 3 4 5 6 7;", "houses 8;ring 0 1 2 3;ring 4 5 6 7;"), 0);
        Due.is(41, "a star and a way", alike("houses 4;door 0 1;door 0 2;door 0 3;", "houses 4;door 0 1;door 1 2;door 2 3;"), 0);
        Due.is(41, "the same doors for each", alike("houses 6;ring 0 1 2 3 4 5;door 0 3;door 1 4;door 2 5;",
                "houses 6;ring 0 1 2;ring 3 4 5;door 0 3;door 1 4;door 2 5;"), 0);
        Due.is(41, "eight", alike("houses 8;ring 0 1 2 3;ring 4 5 6 7;door 0 4;door 1 5;door 2 6;door 3 7;",
                "houses 8;ring 0 7 1 6;ring 2 5 3 4;door 0 2;door 7 5;door 1 3;door 6 4;"), 1);
    }

    private static void manyAlike() {
        Random random = new Random(41);
        for (int i = 0; i < 200; i++) {
            int n = 5 + random.nextInt(3);
            Model m = new Model();
            NoThree x = new NoThree();
            for (int round = 0; round < 2; round++) {
                StringBuilder s = new StringBuilder("houses " + n + ";");
                int left = n;
                for (int[] p : Due.pairs(n)) {
                    if (left > 0 && random.nextInt(3) == 0) {
                        s.append("door ").append(p[0]).append(' ').append(p[1]).append(';');
                        left--;
                    }
                }
                Due.tell(x, s.toString());
                m.tape = s.toString();
                m.town(s.length());
                Due.is(40, "selves: " + s, x.selves(), m.selves());
                if (round == 0) {
                    x.image(0);
                    m.image(0);
                } else {
                    Due.is(41, "alike: " + s, x.alike(0), m.alike(0));
                }
            }
        }
    }

    private static void unlike() {
        NoThree x = new NoThree();
        for (int n = -1; n <= 6; n++) {
            Due.is(42, "unlike(" + n + ", false)", x.unlike(n, false), Model.unlike(n, false));
            Due.is(42, "unlike(" + n + ", true)", x.unlike(n, true), Model.unlike(n, true));
        }
        Due.is(42, "unlike(min)", x.unlike(Integer.MIN_VALUE, true), -3);
        Due.is(42, "unlike(5, false)", x.unlike(5, false), 14);
        Due.is(42, "unlike(5, true)", x.unlike(5, true), 11);
    }

    private static void mostDoors() {
        NoThree x = new NoThree();
        for (int n = -1; n <= 7; n++) {
            Due.is(43, "mostDoors(" + n + ", false)", x.mostDoors(n, false), Model.mostDoors(n, false));
            Due.is(43, "mostDoors(" + n + ", true)", x.mostDoors(n, true), Model.mostDoors(n, true));
        }
        Due.is(43, "mostDoors(max)", x.mostDoors(Integer.MAX_VALUE, false), -3);
        Due.is(43, "mostDoors(6, false)", x.mostDoors(6, false), 9);
    }
}
