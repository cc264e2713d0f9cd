/** Promises 44 to 48: cures, pay, rest and what comes of it. */
final class RestsTest {
    public static void main(String[] args) {
        cure();
        pay();
        atRest();
        restByRules();
        changing();
        dearness();
        everyCost();
        Due.end();
    }

    private static void cured(String town, int... due) {
        NoThree x = Due.town(town);
        Due.is(44, "cure(0): " + town, x.cure(0), due.length);
        for (int k = 0; k < 6; k++) {
            Due.is(44, "cure(" + (10 + k) + "): " + town, x.cure(10 + k), k < due.length ? due[k] : -1);
        }
        Due.is(44, "nothing is walled", x.count(3), 0);
    }

    private static void cure() {
        cured("");
        cured("houses 5;ring 0 1 2 3 4;");
        cured("houses 3;ring 0 1 2;", 1);
        cured("houses 6;ring 0 1 2;ring 3 4 5;", 1, 304);
        // The door between both threes does for both.
        cured("houses 4;ring 0 1 2;door 1 3;door 2 3;", 102);
        cured(Due.complete(4), 1, 203);
        cured(Due.complete(5), 1, 2, 102, 304);
        cured(Due.complete(6), 1, 2, 102, 304, 305, 405);
        cured("houses 11;ring 8 9 10;ring 0 1 2;", 1, 809);
        NoThree seven = Due.town(Due.complete(7));
        Due.is(44, "nine walls", seven.cure(0), -4);
        Due.is(44, "nine walls", seven.cure(10), -4);
        Due.is(44, "what, ahead of nine walls", seven.cure(1), -2);
        Due.is(44, "all eleven", Due.town(Due.complete(11)).cure(0), -4);
        for (int what : new int[] {-1, 1, 9, 16, Integer.MIN_VALUE, Integer.MAX_VALUE}) {
            Due.is(44, "cure(" + what + ")", Due.town("houses 3;").cure(what), -2);
        }
    }

    private static void pay() {
        NoThree x = Due.town("houses 6;door 0 1;door 1 2;door 2 3;door 1 4;");
        int[] due = {18, 34, 28, 14, 18, 0};
        int[] doors = {1, 3, 2, 1, 1, 0};
        for (int h = 0; h < 6; h++) {
            Due.is(45, "pay(" + h + ", 0)", x.pay(h, 0), due[h]);
            Due.is(45, "pay(" + h + ", 99)", x.pay(h, 99), due[h] - 99 * doors[h]);
        }
        Due.is(45, "pay(0, 100)", x.pay(0, 100), -3);
        Due.is(45, "pay(0, -1)", x.pay(0, -1), -3);
        Due.is(45, "pay(6, 0)", x.pay(6, 0), -2);
        Due.is(45, "pay(6, 100)", x.pay(6, 100), -2);
        Due.is(45, "pay(-1, 0)", x.pay(-1, 0), -2);
    }

    private static void atRest() {
        Due.is(46, "none", new NoThree().atRest(0), 1);
        Due.is(46, "atRest(100)", new NoThree().atRest(100), -3);
        Due.is(46, "atRest(-1)", new NoThree().atRest(-1), -3);
        NoThree two = Due.town("houses 2;");
        Due.is(46, "both would join", two.atRest(9), 0);
        Due.is(46, "neither has more", two.atRest(10), 1);
        two.join(0, 1);
        Due.is(46, "neither has more", two.atRest(10), 1);
        Due.is(46, "both would wall", two.atRest(11), 0);
        // House 2 would have more, house 1 as much.
        NoThree three = Due.town("houses 3;door 0 1;");
        Due.is(46, "one has more", three.atRest(10), 0);
        // Once joined, houses 0 and 2 can't join by a three.
        three.join(1, 2);
        Due.is(46, "a three", three.atRest(9), 1);
        Due.is(46, "a three", three.atRest(0), 1);
        Due.is(46, "the middle would wall", three.atRest(11), 0);
        NoThree star = Due.town("houses 5;door 0 1;door 0 2;door 0 3;door 0 4;");
        Due.is(46, "a star", star.atRest(10), 1);
        Due.is(46, "the middle pays", star.atRest(11), 0);
    }

    private static void restByRules() {
        NoThree x = Due.town("houses 2;rule: doors = 0;");
        Due.is(46, "a rule hinders", x.atRest(0), 1);
        Due.is(47, "a rule hinders", x.changing(0, 0), 0);
        Due.is(48, "a rule hinders", x.dearness(), 0);
        NoThree y = Due.town("houses 4;rule: doors < 2;");
        Due.is(47, "two doors", y.changing(5, 0), 2);
        Due.is(47, "two doors", y.changing(5, 1), 2);
        Due.is(47, "at rest", y.changing(5, 2), 1);
    }

    private static void changing() {
        NoThree x = Due.town("houses 4;ring 0 1 2;");
        Due.is(47, "changing(0, 3)", x.changing(0, 3), -2);
        Due.is(47, "changing(0, -1)", x.changing(0, -1), -2);
        Due.is(47, "what, ahead of cost", x.changing(100, 3), -2);
        Due.is(47, "changing(100, 0)", x.changing(100, 0), -3);
        Due.is(47, "changing(-1, 2)", x.changing(-1, 2), -3);
        // House 0 walls at 7: a neighbour's 10 less the 4 that it is still worth two steps away.
        Due.is(47, "walls and joins", x.changing(99, 0), 3);
        Due.is(47, "all walled", x.changing(99, 1), 0);
        Due.is(47, "at rest", x.changing(99, 2), 1);
        Due.is(47, "as if", x.count(1), 3);
        Due.is(47, "as if", x.count(3), 0);
        Due.is(47, "a ring of three stays", Due.town("houses 3;ring 0 1 2;").changing(6, 0), 0);
        Due.is(47, "one wall", Due.town("houses 3;ring 0 1 2;").changing(7, 0), 1);
        Due.is(47, "one wall", Due.town("houses 3;ring 0 1 2;").changing(7, 1), 2);
        Due.is(47, "none", new NoThree().changing(0, 2), 1);
        // At no cost the first house joins all others.
        NoThree eleven = Due.town("houses 11;");
        Due.is(47, "eleven", eleven.changing(0, 0), 10);
        Due.is(47, "eleven", eleven.changing(0, 1), 10);
        sixtyTimes();
    }

    private static void sixtyTimes() {
        String town = Due.complete(11).replace("door 3 10;", "").replace("door 4 10;", "").replace("door 5 10;", "")
                .replace("door 6 10;", "") + "rule: colours < 3;";
        NoThree x = Due.town(town);
        Model m = new Model();
        m.tape = town;
        m.town(town.length());
        int[] due = {60, 29, 0};
        for (int what = 0; what < 3; what++) {
            Due.is(47, "sixty times at most, " + what, x.changing(7, what), due[what]);
            Due.is(47, "sixty times at most, " + what, m.changing(7, what), due[what]);
        }
    }

    private static void dearness() {
        Due.is(48, "none", new NoThree().dearness(), 0);
        Due.is(48, "one", Due.town("houses 1;").dearness(), 0);
        Due.is(48, "two", Due.town("houses 2;").dearness(), 10);
        Due.is(48, "a door", Due.town("houses 2;door 0 1;").dearness(), 0);
        Due.is(48, "a door and one", Due.town("houses 3;door 0 1;").dearness(), -1);
        Due.is(48, "a ring of five", Due.town("houses 5;ring 0 1 2 3 4;").dearness(), 0);
        Due.is(48, "a way of four", Due.town("houses 4;door 0 1;door 1 2;door 2 3;").dearness(), 10);
        Due.is(48, "two doors", Due.town("houses 4;door 0 1;door 2 3;").dearness(), -1);
    }

    /** The least cost and each cost's rest tell the same. */
    private static void everyCost() {
        String[] towns = {"houses 6;ring 0 1 2 3 4 5;", "houses 7;door 0 1;door 2 3;door 3 4;", "houses 8;",
            "houses 6;ring 0 3 1 4 2 5;rule: doors < 3;", "houses 8;ring 0 1 2 3 4 5 6 7;rule: fours = 0;", Due.complete(5),
            "houses 5;door 0 1;door 1 2;door 2 3;door 3 4;rule: halves = 1;"};
        for (String town : towns) {
            NoThree x = Due.town(town);
            int least = -1;
            for (int cost = 99; cost >= 0; cost--) {
                least = x.atRest(cost) == 1 ? cost : least;
                Due.is(47, "no change at rest: " + town, (x.changing(cost, 0) == 0) == (x.atRest(cost) == 1));
            }
            Due.is(48, "dearness: " + town, x.dearness(), least);
        }
    }
}
