/** Promises 1 to 9: the town, its text and its faults, its houses, its rules. */
final class TownTest {
    public static void main(String[] args) {
        newObject();
        feed();
        town();
        faultsOfTokens();
        faultsOfPlaces();
        faultsOfBounds();
        faultsOfTooMany();
        house();
        steps();
        rules();
        rulesWithin();
        brokenOnes();
        Due.end();
    }

    private static void newObject() {
        NoThree x = new NoThree();
        for (int what = 0; what < 8; what++) {
            Due.is(1, "count(" + what + ")", x.count(what), 0);
        }
        Due.is(1, "fault(0)", x.fault(0), 0);
        Due.is(1, "fault(1)", x.fault(1), -1);
        Due.is(1, "house(0, 0)", x.house(0, 0), -2);
        Due.is(1, "holds(0, 0)", x.holds(0, 0), -2);
        Due.is(1, "copy(0)", x.copy(0), -6);
        Due.is(1, "restore(0)", x.restore(0), -5);
        Due.is(1, "weave()", x.weave(), 1);
        Due.is(1, "undo(1)", x.undo(1), 0);
        Due.is(1, "NONE", NoThree.NONE, -1);
    }

    private static void feed() {
        NoThree x = new NoThree();
        Due.is(2, "highest first", x.feed(0x686F7573, 0x65732031, 0x3B000000, 0, 0), 20);
        Due.is(2, "town(9)", x.town(9), 1);
        Due.is(2, "count(0)", x.count(0), 1);
        for (int i = 1; i <= 45; i++) {
            Due.is(2, "feed", x.feed(i, i, i, i, i), 20 * i);
        }
        Due.is(2, "a 46th", x.feed(0, 0, 0, 0, 0), -5);
        Due.is(2, "count(6)", x.count(6), 900);
        Due.is(2, "town(901)", x.town(901), -3);
        Due.is(2, "town(900)", x.town(900), -31);
        Due.is(2, "count(6)", x.count(6), 0);
    }

    private static void town() {
        NoThree x = new NoThree();
        Due.feed(x, "houses 3;houses 2;");
        Due.is(3, "town(-1)", x.town(-1), -3);
        Due.is(3, "town(21)", x.town(21), -3);
        Due.is(3, "the tape stays", x.count(6), 20);
        Due.is(3, "the fault is of none read", x.fault(0), 0);
        Due.is(3, "only the first bytes", x.town(9), 1);
        Due.is(3, "houses", x.count(0), 3);
        Due.is(3, "the tape is empty", x.count(6), 0);
        Due.is(3, "two lines", Due.tell(x, "houses 3;houses 2;rule:1=1;"), 3);
        Due.is(3, "houses", x.count(0), 5);
        Due.is(3, "a deed", x.join(0, 1), 1);
        Due.is(3, "a fault", Due.tell(x, "houses 3;door 0 1"), -32);
        Due.is(3, "the tape is empty", x.count(6), 0);
        Due.is(3, "all stays", x.count(0), 5);
        Due.is(3, "lines stay", x.count(7), 3);
        Due.is(3, "deeds stay", x.count(3), 1);
        Due.is(3, "rules stay", x.count(2), 1);
        Due.is(3, "blanks", Due.tell(x, "\n houses\n4 ;\n\n ring 0 1\n2;  "), 2);
        Due.is(3, "no deeds", x.count(3), 0);
        Due.is(3, "no rules", x.count(2), 0);
        Due.is(3, "without blanks", Due.tell(x, "houses4;ring0 1 2;rule:doors=1or not 1=2and 3=3;"), 3);
        Due.is(3, "ring and door", Due.tell(x, "houses 004;door 0 1;ring 3 2 1 0;"), 3);
        Due.is(3, "doors told twice by rings", x.count(1), 4);
        Due.is(3, "eleven in a ring", Due.tell(x, "houses 11;ring 10 9 8 7 6 5 4 3 2 1 0;"), 2);
        Due.is(3, "doors", x.count(1), 11);
        Due.is(3, "a text may tell threes", Due.tell(x, "houses 3;rule: threes = 0;ring 0 1 2;"), 3);
        Due.is(3, "and what no rule holds for", x.breaches(), 3);
        Due.is(3, "none", Due.tell(x, " \n "), 0);
        Due.is(3, "houses", x.count(0), 0);
        String long1 = "houses 1;" + Due.repeated(" ", 891);
        Due.is(3, "900 bytes", Due.tell(x, long1), 1);
    }

    private static void faultsOfTokens() {
        Due.faultOf(",", 1, 0);
        Due.faultOf("houses 3;\t", 1, 9);
        Due.faultOf("houses 3;" + (char) 233, 1, 9);
        Due.faultOf("houses 3;" + (char) 0, 1, 9);
        Due.faultOf("Houses 3;", 1, 0);
        Due.faultOf("{", 1, 0);
        Due.faultOf("`", 1, 0);
        Due.faultOf("houses /;", 1, 7);
        Due.faultOf("houses 0001;", 1, 7);
        Due.faultOf("houses 12345678901;", 1, 7);
        Due.faultOf("rule: doors / 2 = 1;", 1, 12);
        Due.faultOf("rule: doors = 1000;", 1, 14);
        Due.faultOf("door 9999 ,", 1, 5);
        Due.faultOf("houses 0,", 3, 7);
    }

    private static void faultsOfPlaces() {
        Due.faultOf(";", 2, 0);
        Due.faultOf("houses 3;;", 2, 9);
        Due.faultOf("houses", 2, 6);
        Due.faultOf("houses   ", 2, 9);
        Due.faultOf("houses 3", 2, 8);
        Due.faultOf("housesx 3;", 2, 0);
        Due.faultOf("doors 0 1;", 2, 0);
        Due.faultOf("3;", 2, 0);
        Due.faultOf("mouses 3;", 2, 0);
        Due.faultOf("zoo;", 2, 0);
        Due.faultOf("azz;", 2, 0);
        Due.faultOf("rule: tar = 1;", 2, 6);
        Due.faultOf("rule: fat = 1;", 2, 6);
        Due.faultOf("houses 3 4;", 2, 9);
        Due.faultOf("houses 3;door 0;", 2, 15);
        Due.faultOf("houses 3;door 0 1 2;", 2, 18);
        Due.faultOf("houses 4;ring 0 1;", 2, 17);
        Due.faultOf("houses 4;ring 0 1 2 x;", 2, 20);
        Due.faultOf("rule doors = 1;", 2, 5);
        Due.faultOf("rule:;", 2, 5);
        Due.faultOf("rule: door = 1;", 2, 6);
        Due.faultOf("rule: 1;", 2, 7);
        Due.faultOf("rule: 1 = ;", 2, 10);
        Due.faultOf("rule: 1 = 2 = 3;", 2, 12);
        Due.faultOf("rule: 1 + = 2;", 2, 10);
        Due.faultOf("rule: - 1 = 2;", 2, 6);
        Due.faultOf("rule: 1 = 2 and;", 2, 15);
        Due.faultOf("rule: 1 = 2 not 1 = 1;", 2, 12);
        Due.faultOf("rule: (1 = 1);", 2, 9);
        Due.faultOf("rule: [1] = 1;", 2, 8);
        Due.faultOf("rule: [1 = 1;", 2, 12);
        Due.faultOf("rule: 1 = 1];", 2, 11);
        Due.faultOf("rule: (1 = 1;", 2, 9);
        Due.faultOf("rule: ((1) = 1;", 2, 11);
        Due.faultOf("rule: 1) = 1;", 2, 7);
        Due.faultOf("rule: 1 = not 1 = 1;", 2, 10);
        Due.faultOf("rule: (not 1 = 1);", 2, 7);
        Due.faultOf("rule: ([1 = 1]);", 2, 7);
        Due.faultOf("rule: 1 = 1", 2, 11);
        Due.faultOf("rule: rule = 1;", 2, 6);
        Due.faultOf("rule: 1 = 1 xor 1 = 1;", 2, 12);
    }

    private static void faultsOfBounds() {
        Due.faultOf("houses 0;", 3, 7);
        Due.faultOf("houses 12;", 3, 7);
        Due.faultOf("houses 999;", 3, 7);
        Due.faultOf("door 0 1;", 3, 5);
        Due.faultOf("houses 2;door 2 0;", 3, 14);
        Due.faultOf("houses 2;door 0 2;", 3, 16);
        Due.faultOf("houses 2;door 1 1;", 3, 16);
        Due.faultOf("houses 2;door 0 1;door 1 0;", 3, 25);
        Due.faultOf("houses 3;ring 0 1 2;door 2 0;", 3, 27);
        Due.faultOf("houses 3;ring 0 1 3;", 3, 18);
        Due.faultOf("houses 3;ring 0 0;", 3, 16);
        Due.faultOf("houses 3;ring 0 1 2 0;", 3, 20);
        Due.faultOf("houses 11;ring 0 1 2 3 4 5 6 7 8 9 10 0;", 3, 38);
        Due.faultOf("houses 2;door 0 1;houses 1;door 0 3;", 3, 34);
    }

    private static void faultsOfTooMany() {
        Due.faultOf("houses 11;houses 1;", 4, 17);
        Due.faultOf("houses 1;houses 11;", 4, 16);
        Due.faultOf("houses 1;houses 12;", 3, 16);
        String six = Due.repeated("rule:1=1;", 6);
        Due.is(3, "six rules", Due.tell(new NoThree(), six), 6);
        Due.faultOf(six + " rule", 4, 55);
        Due.is(3, "six nots", Due.tell(new NoThree(), "rule:" + Due.repeated("not ", 6) + "1=1;"), 1);
        Due.faultOf("rule:" + Due.repeated("not ", 7) + "1=1;", 4, 29);
        Due.faultOf("rule:[[[[[[[1=1", 4, 11);
        Due.faultOf("rule:(((((((1", 4, 11);
        Due.faultOf("rule:not[not[((1)+(((1", 4, 19);
        Due.faultOf("rule:1=1 and 2=2*((((((1*(1", 4, 25);
        Due.is(3, "not within one another", Due.tell(new NoThree(),
                "rule:not not not 1=1 and not not not not 1=1 or ((1))=((((1))))*(1);"), 1);
        Due.faultOf("rule:not not not not not not 1=(1);", 4, 31);
    }

    private static void house() {
        // A ring of four, a way of two behind house 0, and one alone.
        NoThree x = Due.town("houses 7;ring 0 1 2 3;door 0 4;door 4 5;");
        int[][] due = {
            {3, 26, 0, 1, 2, 63, 36}, {2, 5, 0, 1, 3, 63, 24}, {2, 10, 0, 1, 4, 63, 1}, {2, 5, 0, 1, 3, 63, 18},
            {2, 33, 0, 0, 3, 63, 10}, {1, 16, 0, 0, 4, 63, 1}, {0, 0, 0, 0, 0, 64, 0}};
        for (int h = 0; h < 7; h++) {
            for (int what = 0; what < 7; what++) {
                Due.is(5, "house(" + h + ", " + what + ")", x.house(h, what), due[h][what]);
            }
            Due.is(5, "house(h, 7)", x.house(h, 7), -2);
            Due.is(5, "house(h, -1)", x.house(h, -1), -2);
        }
        Due.is(5, "house(7, 0)", x.house(7, 0), -2);
        Due.is(5, "house(-1, 0)", x.house(-1, 0), -2);
        NoThree k = Due.town(Due.complete(5));
        Due.is(5, "threes of one of five", k.house(2, 2), 6);
        Due.is(5, "fours of one of five", k.house(2, 3), 12);
    }

    private static void steps() {
        NoThree x = Due.town("houses 7;door 0 1;door 1 2;door 2 3;door 3 4;door 5 6;");
        Due.is(6, "steps(0, 4)", x.steps(0, 4), 4);
        Due.is(6, "steps(4, 1)", x.steps(4, 1), 3);
        Due.is(6, "steps(2, 2)", x.steps(2, 2), 0);
        Due.is(6, "steps(0, 5)", x.steps(0, 5), -1);
        Due.is(6, "steps(0, 7)", x.steps(0, 7), -2);
        Due.is(6, "steps(-1, 0)", x.steps(-1, 0), -2);
        NoThree way = Due.town("houses 11;door 0 1;door 1 2;door 2 3;door 3 4;door 4 5;door 5 6;door 6 7;door 7 8;"
                + "door 8 9;door 9 10;");
        Due.is(6, "steps(10, 0)", way.steps(10, 0), 10);
    }

    private static void rule(String rule, int holdingBits) {
        // Houses 0 to 4 in a ring with a door across: a three and a round of four; house 5 alone.
        NoThree x = Due.town("houses 6;ring 0 1 2 3 4;door 0 2;rule: " + rule + ";");
        for (int h = 0; h < 6; h++) {
            Due.is(7, "holds for " + h + ": " + rule, x.holds(0, h), holdingBits >> h & 1);
        }
        Due.is(7, "no rule", x.holds(1, 0), -2);
        Due.is(7, "no rule", x.holds(-1, 0), -2);
        Due.is(7, "no house", x.holds(0, 6), -2);
        Due.is(7, "no house", x.holds(0, -1), -2);
    }

    private static void rules() {
        rule("doors = 3", 5);
        rule("threes = 1", 7);
        rule("fours = 1", 29);
        rule("far = 2", 31);
        rule("far = 0", 32);
        rule("houses = 6", 63);
        rule("pairs = 6", 63);
        rule("feast = 3", 63);
        rule("colours = 3", 63);
        rule("halves = 0", 63);
        rule("doors < 2", 32);
        rule("doors > 2", 5);
        rule("not doors > 2", 58);
        rule("doors = 0 or doors = 3", 37);
        rule("threes = 1 and doors = 2", 2);
        rule("doors = 0 or threes = 1 and doors = 2", 34);
        rule("doors = 0 and threes = 1 or doors = 2", 26);
        rule("[doors = 0 or threes = 1] and doors < 3", 34);
        rule("not doors = 0 and doors < 3", 26);
        rule("not [doors = 0 and doors < 3]", 31);
        rule("doors - 1 - 1 = 1", 5);
        rule("doors - (1 - 1) = 2", 26);
        rule("1 + doors * 2 = 5", 26);
        rule("(1 + doors) * 2 = 6", 26);
        rule("doors - 4 < 0", 63);
        rule("10 - doors * doors > 5", 58);
    }

    private static void rulesWithin() {
        rule("999 * 999 = 998 * 999 + 999", 63);
        rule("999 * 999 * 999 = 999 * 999 + 999 + 999 + 999", 63);
        rule("999 * 999 * 2 - 999 * 999 = 999 + 999 + 1", 63);
        rule("0 - 999 * 999 * 2 < 0 - 999 * 999", 63);
        rule("0 - 999 * 999 * 2 + 999 * 999 + 999 + 999 + 1 = 0", 63);
        rule("(0 - 999 * 999 * 9) * (0 - 999 * 999 * 9) = 999 * 999 * 9", 63);
        rule("((((((doors)))))) = 3", 5);
        rule("[[[[[[doors = 3]]]]]]", 5);
        rule("not not not doors = 3", 58);
    }

    private static void brokenOnes() {
        NoThree x = Due.town("houses 4;door 1 2;rule: 1 = 1;rule: doors < 1;rule: far = 0;");
        Due.is(8, "broken(0)", x.broken(0), 1);
        Due.is(8, "broken(1)", x.broken(1), 1);
        Due.is(8, "broken(2)", x.broken(2), -2);
        Due.is(8, "broken(-1)", x.broken(-1), -2);
        Due.is(9, "breaches()", x.breaches(), 4);
        x.wall(1, 2);
        Due.is(8, "broken(0)", x.broken(0), -1);
        Due.is(8, "broken(1)", x.broken(1), -1);
        Due.is(8, "broken(2)", x.broken(2), -2);
        Due.is(9, "breaches()", x.breaches(), 0);
        NoThree y = Due.town("houses 2;rule: doors = 1;rule: houses = 2;rule: 1 = 2;");
        Due.is(8, "broken(0)", y.broken(0), 0);
        Due.is(8, "broken(1)", y.broken(1), 0);
        Due.is(9, "breaches()", y.breaches(), 4);
        NoThree z = Due.town("rule: 1 = 2;");
        Due.is(8, "no houses", z.broken(0), -1);
        Due.is(9, "no houses", z.breaches(), 0);
        Due.is(9, "no houses", z.count(2), 1);
        NoThree six = Due.town("houses 3;door 0 1;rule:1=1;rule:doors<2;rule:2=2;rule:far<2;rule:3=3;rule:doors=1 or 1=2;");
        Due.is(7, "a sixth rule", six.holds(5, 0), 1);
        Due.is(7, "a sixth rule", six.holds(5, 2), 0);
        Due.is(7, "no seventh", six.holds(6, 0), -2);
        Due.is(8, "a sixth rule", six.broken(1), 5);
        Due.is(9, "a sixth rule", six.breaches(), 1);
    }
}
