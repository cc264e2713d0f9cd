/** What the document says of the bounds of gossip, of towns that are alike, of cures and of rests: promises 35 to 48. */
final class SocietyBoundsTest {
    private static final int[] NO_HOUSES = {-1, -2, 11, 12, 32, Integer.MIN_VALUE, Integer.MAX_VALUE};

    public static void main(String[] args) {
        tellingOfNone();
        tellingBounds();
        tellerOfNone();
        safeBounds();
        wideOfNone();
        markOfSix();
        selvesOfEight();
        alikeCodes();
        alikeOfEight();
        unlikeBounds();
        mostDoorsBounds();
        cureWhat();
        cureOfSix();
        cureOfNone();
        firstCures();
        costBounds();
        restAtTheCost();
        oneMayHaveAsMuch();
        restByReasons();
        changingWhat();
        changingInOrder();
        sixtyTimes();
        dearnessBounds();
        Due.end();
    }

    private static NoThree houses(int n) {
        return n == 0 ? new NoThree() : Due.town("houses " + n + ";");
    }

    private static String way(int n) {
        StringBuilder text = new StringBuilder("houses " + n + ";");
        for (int h = 1; h < n; h++) {
            text.append("door ").append(h - 1).append(' ').append(h).append(';');
        }
        return text.toString();
    }

    private static String ring(int n) {
        StringBuilder text = new StringBuilder("houses " + n + ";ring");
        for (int h = 0; h < n; h++) {
            text.append(' ').append(h);
        }
        return text + ";";
    }

    private static String star(int n) {
        StringBuilder text = new StringBuilder("houses " + n + ";");
        for (int h = 1; h < n; h++) {
            text.append("door 0 ").append(h).append(';');
        }
        return text.toString();
    }

    /** "TELLING from a HOUSE. -2." */
    private static void tellingOfNone() {
        for (int n = 0; n <= 11; n++) {
            Due.is(35, "one more than there are", houses(n).telling(n), -2);
            for (int none : NO_HOUSES) {
                Due.is(35, "telling(" + none + ")", houses(n).telling(none), -2);
            }
        }
    }

    private static void tellingBounds() {
        for (int n = 1; n <= 11; n++) {
            Due.is(35, "nobody to tell", houses(n).telling(n - 1), 0);
            Due.is(35, "from the end of a way", Due.town(way(n)).telling(0), n - 1);
            Due.is(35, "a star", Due.town(star(n)).telling(0), n - 1);
            int rounds = 0;
            while (1 << rounds < n) {
                rounds++;
            }
            Due.is(35, "all " + n, Due.town(Due.complete(n)).telling(0), rounds);
            if (n > 2) {
                Due.is(35, "a ring of " + n, Due.town(ring(n)).telling(0), (n + 1) / 2);
                Due.is(35, "a star's end", Due.town(star(n)).telling(n - 1), n - 1);
            }
        }
        Due.is(35, "only its part", Due.town("houses 11;door 0 1;ring 2 3 4 5 6 7 8 9 10;").telling(1), 1);
    }

    /** "Of HOUSES that reach the most that by which TELLING takes the fewest ROUNDS, the first. NONE: no HOUSES." */
    private static void tellerOfNone() {
        Due.is(36, "no houses", new NoThree().teller(), -1);
        for (int n = 1; n <= 11; n++) {
            Due.is(36, n + " alone", houses(n).teller(), 0);
            Due.is(36, "all " + n, Due.town(Due.complete(n)).teller(), 0);
        }
        Due.is(36, "the last two reach the most", Due.town("houses 11;door 9 10;").teller(), 9);
        Due.is(36, "the middle of the larger part", Due.town("houses 8;door 0 1;door 1 2;door 4 5;door 5 6;door 6 7;").teller(), 5);
        Due.is(36, "of like parts the first", Due.town("houses 6;door 0 1;door 1 2;door 3 4;door 4 5;").teller(), 0);
        Due.is(36, "fewer rounds in the second part", Due.town("houses 8;door 0 1;door 0 2;door 0 3;door 4 5;door 5 6;door 6 7;").teller(), 5);
    }

    /** "More than n STEPS (0 to 10) from one, or can't be reached. -2; -3." */
    private static void safeBounds() {
        NoThree way = Due.town(way(11));
        for (int n = 0; n <= 10; n++) {
            Due.is(37, "more than " + n, way.safe(0, n), 2047 & -2 << n);
            Due.is(37, "more than " + n, way.safe(10, n), 2047 >> n + 1);
            Due.is(37, "can't be reached", houses(11).safe(4, n), 2047 & ~16);
            Due.is(37, "one alone", houses(1).safe(0, n), 0);
        }
        for (int n : new int[] {-1, 11, 12, 32, Integer.MIN_VALUE, Integer.MAX_VALUE}) {
            Due.is(37, "safe(0, " + n + ")", way.safe(0, n), -3);
            Due.is(37, "-2 ahead of -3", way.safe(11, n), -2);
            Due.is(37, "-2 ahead of -3", new NoThree().safe(0, n), -2);
        }
        for (int none : NO_HOUSES) {
            Due.is(37, "safe(" + none + ", 0)", way.safe(none, 0), -2);
        }
    }

    /** "(1; NONE: no two do). NONE: no HOUSES; -2." */
    private static void wideOfNone() {
        for (int n = 0; n <= 11; n++) {
            for (int what : new int[] {-1, 2, Integer.MIN_VALUE, Integer.MAX_VALUE}) {
                Due.is(38, "wide(" + what + ") of " + n, houses(n).wide(what), -2);
            }
            Due.is(38, n + " alone", houses(n).wide(0), n == 0 ? -1 : 0);
            Due.is(38, n + " alone", houses(n).wide(1), -1);
            if (n > 1) {
                Due.is(38, "a way of " + n, Due.town(way(n)).wide(0), n - 1);
                Due.is(38, "a way of " + n, Due.town(way(n)).wide(1), n - 1);
                Due.is(38, "all " + n, Due.town(Due.complete(n)).wide(0), 1);
                Due.is(38, "all " + n, Due.town(Due.complete(n)).wide(1), 1);
                NoThree last = Due.town("houses " + n + ";door " + (n - 1) + " " + (n - 2) + ";");
                Due.is(38, "the last two", last.wide(1), 100 * (n - 2) + n - 1);
            }
        }
    }

    /** "Of a town of at most 6 HOUSES"; "-4: more than 6 HOUSES." */
    private static void markOfSix() {
        for (int n = 0; n <= 11; n++) {
            Due.is(39, n + " alone", houses(n).mark(), n > 6 ? -4 : 0);
            if (n > 0) {
                Due.is(39, "all " + n, Due.town(Due.complete(n)).mark(), n > 6 ? -4 : (1 << n * (n - 1) / 2) - 1);
            }
            if (n > 1) {
                String text = "houses " + n + ";door " + (n - 2) + " " + (n - 1) + ";";
                Due.is(39, "one door of " + n, Due.town(text).mark(), n > 6 ? -4 : 1);
            }
        }
        NoThree x = houses(7);
        x.leave(0);
        Due.is(39, "six are left", x.mark(), 0);
        // A star of six: its middle's doors are the least as the last house's alone, 0 to 4 with 5, or as bits of others.
        Due.is(39, "a star of six", Due.town(star(6)).mark(), 1 | 2 | 8 | 64 | 1024);
    }

    /** "(8 HOUSES at most)"; "-4: more than 8 HOUSES." */
    private static void selvesOfEight() {
        int ways = 1;
        for (int n = 0; n <= 11; n++) {
            ways *= Math.max(n, 1);
            Due.is(40, n + " alone", houses(n).selves(), n > 8 ? -4 : ways);
            if (n > 0) {
                Due.is(40, "all " + n, Due.town(Due.complete(n)).selves(), n > 8 ? -4 : ways);
            }
            if (n > 2) {
                Due.is(40, "a ring of " + n, Due.town(ring(n)).selves(), n > 8 ? -4 : 2 * n);
                Due.is(40, "a way of " + n, Due.town(way(n)).selves(), n > 8 ? -4 : 2);
                Due.is(40, "a star of " + n, Due.town(star(n)).selves(), n > 8 ? -4 : n == 3 ? 2 : ways / n);
            }
        }
    }

    /** "-2; -5: none was made; -4: one of both has more than 8 HOUSES", in this order. */
    private static void alikeCodes() {
        for (int n : new int[] {0, 8, 9, 11}) {
            NoThree x = houses(n);
            for (int image : new int[] {-1, 2, 3, Integer.MIN_VALUE, Integer.MAX_VALUE}) {
                Due.is(41, "alike(" + image + ") of " + n, x.alike(image), -2);
            }
            Due.is(41, "none was made", x.alike(0), -5);
            Due.is(41, "none was made", x.alike(1), -5);
            x.image(1);
            Due.is(41, "another was made", x.alike(0), -5);
            Due.is(41, "made", x.alike(1), n > 8 ? -4 : 1);
        }
    }

    private static void alikeOfEight() {
        for (int now = 0; now <= 11; now++) {
            for (int then = 0; then <= 11; then++) {
                NoThree x = houses(then);
                x.image(0);
                Due.tell(x, now == 0 ? "" : "houses " + now + ";rule:1=2;");
                Due.is(41, now + " and " + then, x.alike(0), now > 8 || then > 8 ? -4 : now == then ? 1 : 0);
            }
        }
        NoThree y = Due.town(ring(8));
        y.image(0);
        Due.tell(y, "houses 8;ring 7 2 5 0 3 6 1 4;");
        Due.is(41, "a ring told otherwise", y.alike(0), 1);
        y.wall(7, 2);
        Due.is(41, "a door less", y.alike(0), 0);
        y.join(7, 5);
        Due.is(41, "as many doors", y.alike(0), 0);
    }

    /** "Towns of n HOUSES (0 to 5) without THREES (fours: without FOURS, too). -3." */
    private static void unlikeBounds() {
        int[] due = {1, 1, 2, 3, 7, 14};
        int[] dueWithoutFours = {1, 1, 2, 3, 6, 11};
        for (int n = -2; n <= 12; n++) {
            boolean fits = n >= 0 && n <= 5;
            Due.is(42, "unlike(" + n + ", false)", houses(3).unlike(n, false), fits ? due[n] : -3);
            Due.is(42, "unlike(" + n + ", true)", new NoThree().unlike(n, true), fits ? dueWithoutFours[n] : -3);
        }
        for (int n : new int[] {Integer.MIN_VALUE, Integer.MAX_VALUE}) {
            Due.is(42, "unlike(" + n + ")", new NoThree().unlike(n, false), -3);
            Due.is(42, "unlike(" + n + ")", new NoThree().unlike(n, true), -3);
        }
    }

    /** "The most DOORS n HOUSES (0 to 6) can have without THREES (fours: without FOURS, too). -3." */
    private static void mostDoorsBounds() {
        int[] due = {0, 0, 1, 2, 4, 6, 9};
        int[] dueWithoutFours = {0, 0, 1, 2, 3, 5, 6};
        for (int n = -2; n <= 12; n++) {
            boolean fits = n >= 0 && n <= 6;
            Due.is(43, "mostDoors(" + n + ", false)", houses(3).mostDoors(n, false), fits ? due[n] : -3);
            Due.is(43, "mostDoors(" + n + ", true)", new NoThree().mostDoors(n, true), fits ? dueWithoutFours[n] : -3);
        }
        for (int n : new int[] {Integer.MIN_VALUE, Integer.MAX_VALUE}) {
            Due.is(43, "mostDoors(" + n + ")", new NoThree().mostDoors(n, false), -3);
            Due.is(43, "mostDoors(" + n + ")", new NoThree().mostDoors(n, true), -3);
        }
    }

    /** "-2: what (10 to 15); -4: more than 6"; -2 is ahead of -4, -4 ahead of NONE. */
    private static void cureWhat() {
        NoThree none = new NoThree();
        NoThree one = Due.town("houses 3;ring 0 1 2;");
        NoThree nine = Due.town(Due.complete(7));
        for (int what = -20; what <= 30; what++) {
            boolean fits = what == 0 || what >= 10 && what <= 15;
            Due.is(44, "cure(" + what + ") of none", none.cure(what), !fits ? -2 : what == 0 ? 0 : -1);
            Due.is(44, "cure(" + what + ") of one", one.cure(what), !fits ? -2 : what == 0 ? 1 : what == 10 ? 1 : -1);
            Due.is(44, "cure(" + what + ") of nine", nine.cure(what), fits ? -4 : -2);
        }
        for (int what : new int[] {Integer.MIN_VALUE, Integer.MAX_VALUE}) {
            Due.is(44, "cure(" + what + ")", none.cure(what), -2);
            Due.is(44, "cure(" + what + ")", nine.cure(what), -2);
        }
    }

    private static void cured(String text, int... due) {
        NoThree x = Due.town(text);
        Due.is(44, "how many: " + text, x.cure(0), due.length);
        for (int k = 0; k < 6; k++) {
            Due.is(44, "wall " + k + ": " + text, x.cure(10 + k), k < due.length ? due[k] : -1);
        }
        Due.is(44, "no deed", x.count(3), 0);
    }

    /** "(6 at most)": six just do, seven are too many. */
    private static void cureOfSix() {
        String six = Due.complete(6);
        cured(six, 1, 2, 102, 304, 305, 405);
        Due.is(44, "six and one", Due.town(six + "houses 3;ring 6 7 8;").cure(0), -4);
        Due.is(44, "six and one", Due.town(six + "houses 3;ring 6 7 8;").cure(15), -4);
        cured(Due.complete(5) + "houses 4;ring 5 6 7 8;door 5 7;door 6 8;", 1, 2, 102, 304, 506, 708);
        cured(Due.complete(5) + "houses 6;ring 5 6 7;ring 8 9 10;", 1, 2, 102, 304, 506, 809);
        NoThree x = Due.town(six + "houses 3;ring 6 7 8;");
        x.wall(7, 8);
        Due.is(44, "one is walled", x.cure(0), 6);
    }

    private static void cureOfNone() {
        cured("");
        cured("houses 11;");
        cured(ring(4));
        cured(ring(11));
        cured("houses 11;ring 8 9 10;", 809);
        // A round of six houses about one: the walls to it are shared by two threes each.
        cured(ring(6) + "houses 1;door 6 0;door 6 1;door 6 2;door 6 3;door 6 4;door 6 5;", 6, 206, 406);
    }

    /** "Of like ones the first as a row of DOORS in order": of four who are all neighbours two doors go, three ways. */
    private static void firstCures() {
        for (int a = 0; a < 11; a++) {
            for (int b = a + 1; b < 11; b++) {
                for (int c = b + 1; c < 11; c++) {
                    for (int d = c + 1; d < 11; d++) {
                        String ring = a + " " + b + " " + c + " " + d;
                        cured("houses 11;ring " + ring + ";door " + a + " " + c + ";door " + b + " " + d + ";",
                                100 * a + b, 100 * c + d);
                    }
                }
                // A door that many threes share is the only cure by one wall.
                StringBuilder book = new StringBuilder("houses 11;door " + a + " " + b + ";");
                for (int c = 0; c < 11; c++) {
                    if (c != a && c != b) {
                        book.append("door ").append(c).append(' ').append(a).append(";door ").append(c).append(' ').append(b).append(';');
                    }
                }
                cured(book.toString(), 100 * a + b);
            }
        }
    }

    /** "COST (0 to 99)": -3; -2 is told first. */
    private static void costBounds() {
        NoThree x = Due.town("houses 3;door 0 1;door 1 2;");
        for (int cost : new int[] {-1, 100, 101, 128, Integer.MIN_VALUE, Integer.MAX_VALUE}) {
            Due.is(45, "pay(0, " + cost + ")", x.pay(0, cost), -3);
            Due.is(45, "-2 ahead of -3", x.pay(3, cost), -2);
            Due.is(45, "-2 ahead of -3", x.pay(-1, cost), -2);
            Due.is(46, "atRest(" + cost + ")", x.atRest(cost), -3);
            Due.is(46, "atRest(" + cost + ") of none", new NoThree().atRest(cost), -3);
            for (int what = 0; what < 3; what++) {
                Due.is(47, "changing(" + cost + ", " + what + ")", x.changing(cost, what), -3);
            }
            Due.is(47, "-2 ahead of -3", x.changing(cost, 3), -2);
            Due.is(47, "-2 ahead of -3", x.changing(cost, -1), -2);
        }
        for (int cost = 0; cost <= 99; cost++) {
            Due.is(45, "pay(0, " + cost + ")", x.pay(0, cost), 14 - cost);
            Due.is(45, "pay(1, " + cost + ")", x.pay(1, cost), 20 - 2 * cost);
            Due.is(46, "atRest(" + cost + ")", x.atRest(cost), cost <= 10 ? 1 : 0);
            Due.is(46, "none at all", new NoThree().atRest(cost), 1);
            Due.is(47, "none at all", new NoThree().changing(cost, 0), 0);
        }
        for (int none : NO_HOUSES) {
            Due.is(45, "pay(" + none + ", 0)", x.pay(none, 0), -2);
            Due.is(45, "pay(" + none + ", 0) of all", Due.town(Due.complete(11)).pay(none, 0), -2);
        }
        Due.is(45, "one more than there are", x.pay(3, 0), -2);
        Due.is(45, "no houses", new NoThree().pay(0, 0), -2);
        Due.is(45, "all neighbours", Due.town(Due.complete(11)).pay(10, 99), 100 - 990);
        Due.is(45, "all two steps away", Due.town(star(11)).pay(10, 0), 46);
    }

    /** "Nobody has more PAY, if a DOOR of its were walled": as much is no more. */
    private static void restAtTheCost() {
        for (int cost = 0; cost <= 99; cost++) {
            // A door alone: 10 for each.
            Due.is(46, "a door at " + cost, Due.town("houses 2;door 0 1;").atRest(cost), cost <= 10 ? 1 : 0);
            // A ring of three: the other is 4 still, two steps away.
            Due.is(46, "a three at " + cost, Due.town("houses 3;ring 0 1 2;").atRest(cost), cost <= 6 ? 1 : 0);
            // A ring of five: a neighbour and one two steps away.
            Due.is(46, "a ring of five at " + cost, Due.town(ring(5)).atRest(cost), cost <= 14 ? 1 : 0);
            // A ring of four: nobody can join for the threes; a wall costs the neighbour alone.
            Due.is(46, "a ring of four at " + cost, Due.town(ring(4)).atRest(cost), cost <= 10 ? 1 : 0);
            Due.is(46, "two alone at " + cost, houses(2).atRest(cost), cost >= 10 ? 1 : 0);
        }
    }

    /** "One of both may have as much, if the other has more"; "no two both have more". */
    private static void oneMayHaveAsMuch() {
        // House 2 would have 14, house 1 would have 10 more.
        NoThree x = Due.town("houses 3;door 0 1;");
        Due.is(46, "both have more", x.atRest(9), 0);
        Due.is(46, "one has more, one as much", x.atRest(10), 0);
        Due.is(47, "they join", x.changing(10, 1), 2);
        // Both would have as much, and neither more.
        Due.is(46, "both as much", houses(2).atRest(10), 1);
        Due.is(47, "both as much", houses(2).changing(10, 0), 0);
        Due.is(46, "both more", houses(2).atRest(9), 0);
        // At 11 house 1 would have less, though house 2 has more; the door is walled all the same.
        Due.is(47, "one has less", x.changing(11, 1), 0);
        NoThree y = Due.town("houses 6;door 0 1;door 0 2;door 3 4;door 3 5;");
        // 0 and 3 would have 18 more each.
        Due.is(46, "both middles", y.atRest(10), 0);
        Due.is(47, "both middles", y.changing(10, 2), 1);
    }

    /** "By JOINING (by 1 to 4)": who would, but can't, are at rest. */
    private static void restByReasons() {
        Due.is(46, "3: a three", Due.town("houses 3;door 0 1;door 1 2;").atRest(0), 1);
        Due.is(46, "4: a rule", Due.town("houses 2;rule:doors=0;").atRest(0), 1);
        Due.is(46, "a rule that doesn't hold now", Due.town("houses 2;rule:doors=1 or 1=2;").atRest(0), 0);
        Due.is(46, "a wall breaks a rule", Due.town("houses 2;door 0 1;rule:doors=1;").atRest(99), 0);
        Due.is(47, "a wall breaks a rule", Due.town("houses 2;door 0 1;rule:doors=1;").changing(99, 1), 0);
        Due.is(46, "one alone", houses(1).atRest(0), 1);
        Due.is(46, "another pair", Due.town("houses 4;door 0 1;door 1 2;").atRest(0), 0);
    }

    /** "What 0: how many times (as if), 1: DOORS then, 2: 1 if it is AT REST then, else 0. -2; -3." */
    private static void changingWhat() {
        NoThree x = Due.town("houses 3;rule:doors<2;");
        for (int what : new int[] {-1, 3, 4, Integer.MIN_VALUE, Integer.MAX_VALUE}) {
            Due.is(47, "changing(0, " + what + ")", x.changing(0, what), -2);
        }
        Due.is(47, "once", x.changing(0, 0), 1);
        Due.is(47, "a door then", x.changing(0, 1), 1);
        Due.is(47, "at rest then", x.changing(0, 2), 1);
        Due.is(47, "as if", x.count(1), 0);
        Due.is(47, "no deed", x.count(3), 0);
        Due.is(47, "not at rest now", x.atRest(0), 0);
        Due.is(47, "at rest at once", x.changing(99, 0), 0);
        Due.is(47, "at rest at once", x.changing(99, 2), 1);
        Due.is(47, "no houses", new NoThree().changing(0, 0), 0);
        Due.is(47, "no houses", new NoThree().changing(0, 1), 0);
        Due.is(47, "no houses", new NoThree().changing(0, 2), 1);
    }

    /** "The first DOOR (in order) that one of both would rather wall is walled, else the first pair who would JOIN do so." */
    private static void changingInOrder() {
        // Walls alone: the doors go in order, till none costs more than it is worth.
        Due.is(47, "all doors go", Due.town(Due.complete(11)).changing(99, 0), 55);
        Due.is(47, "all doors go", Due.town(Due.complete(11)).changing(99, 1), 0);
        Due.is(47, "all doors go", Due.town(Due.complete(11)).changing(99, 2), 1);
        // Each would come to something else by another order, or if both had to want it.
        changed("the first door, not the last", "houses 4;ring 0 1 3;", 8, 3, 4, 1);
        changed("walls ahead of joins", "houses 4;door 0 1;door 2 3;", 13, 2, 0, 1);
        changed("the first pair, not the last", "houses 4;door 0 1;", 1, 2, 3, 1);
        changed("one of both would rather wall", "houses 3;door 0 2;door 1 2;", 13, 2, 0, 1);
        changed("one of both has as much", "houses 3;door 0 2;", 10, 1, 2, 1);
        // The first pair joins: house 0 has them all.
        NoThree y = houses(11);
        Due.is(47, "the first joins all", y.changing(9, 0), 10);
        Due.is(47, "the first joins all", y.changing(9, 1), 10);
        Due.is(47, "at rest then", y.changing(9, 2), 1);
    }

    private static void changed(String sentence, String text, int cost, int... due) {
        NoThree x = Due.town(text);
        for (int what = 0; what < 3; what++) {
            Due.is(47, sentence + ", changing(" + cost + ", " + what + ")", x.changing(cost, what), due[what]);
        }
        Due.is(47, sentence + ", as if", x.count(3), 0);
    }

    private static String allBut(String... doors) {
        String text = Due.complete(11);
        for (String door : doors) {
            text = text.replace("door " + door + ";", "");
        }
        return text;
    }

    /** "60 times at most": towns at rest after 59 and after 60, and some that are not yet. */
    private static void sixtyTimes() {
        changed("59 times", allBut("0 10", "4 8", "4 10", "7 10"), 8, 59, 28, 1);
        changed("60 times", allBut("0 10", "7 10", "8 10"), 8, 60, 28, 1);
        changed("more than 60 times", allBut("0 10", "1 10", "2 10", "7 10"), 9, 60, 29, 0);
        changed("more than 60 times", allBut("3 10", "4 10", "5 10", "6 10") + "rule: colours < 3;", 7, 60, 29, 0);
    }

    /** "Of all COSTS 0 to 99 the least by which THE TOWN is AT REST. NONE: by none." */
    private static void dearnessBounds() {
        Due.is(48, "no houses", new NoThree().dearness(), 0);
        Due.is(48, "one alone", houses(1).dearness(), 0);
        for (int n = 2; n <= 11; n++) {
            Due.is(48, n + " alone", houses(n).dearness(), 10);
            Due.is(48, "a star of " + n, Due.town(star(n)).dearness(), 0);
            Due.is(48, "all " + n, Due.town(Due.complete(n)).dearness(), 0);
        }
        Due.is(48, "by none", Due.town("houses 3;door 0 1;").dearness(), -1);
        Due.is(48, "by none, for a rule is nothing to a wall", Due.town("houses 3;door 0 1;rule:far<9;").dearness(), -1);
        Due.is(48, "a rule hinders", Due.town("houses 3;door 0 1;rule:doors<2;").dearness(), 0);
        // A way of four: both ends would have 10, the town rests at 10 and no more.
        Due.is(48, "just at one cost", Due.town(way(4)).dearness(), 10);
        Due.is(46, "just at one cost", Due.town(way(4)).atRest(9), 0);
        Due.is(46, "just at one cost", Due.town(way(4)).atRest(10), 1);
        Due.is(46, "just at one cost", Due.town(way(4)).atRest(11), 0);
    }
}
