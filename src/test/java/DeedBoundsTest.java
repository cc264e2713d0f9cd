/** What the document says of deeds that can't be and of their bounds: promises 10 to 21. */
final class DeedBoundsTest {
    private static final int[] NO_HOUSES = {-1, -2, 12, 32, 64, Integer.MIN_VALUE, Integer.MAX_VALUE};

    public static void main(String[] args) {
        joinNone();
        joinDoor();
        joinThree();
        joinRule();
        rulesThatDoNotHold();
        leastReason();
        wallNone();
        wallWithoutDoor();
        mayNone();
        setsOfOthers();
        elevenHouses();
        entryByThree();
        entryByRule();
        firstReason();
        houseThatGoes();
        weaveFiveAtMost();
        twelveDeeds();
        everyKindIsUndone();
        undoBounds();
        actsThatCannotBe();
        actsAsIf();
        actsAsFarAsTheyCan();
        growBounds();
        growTillOneCannot();
        growByRules();
        centuryBounds();
        drawsWrapAround();
        Due.end();
    }

    private static void refusedJoin(String sentence, NoThree x, int a, int b, int reason) {
        int doors = x.count(1);
        int deeds = x.count(3);
        Due.is(10, sentence + ", why(" + a + ", " + b + ")", x.why(a, b), reason);
        Due.is(10, sentence + ", why(" + b + ", " + a + ")", x.why(b, a), reason);
        Due.is(11, sentence + ", join(" + a + ", " + b + ")", x.join(a, b), -10 - reason);
        Due.is(11, sentence + ", join(" + b + ", " + a + ")", x.join(b, a), -10 - reason);
        Due.is(11, sentence + ", doors stay", x.count(1), doors);
        Due.is(11, sentence + ", deeds stay", x.count(3), deeds);
    }

    /** "1 a HOUSE is none, both are one." */
    private static void joinNone() {
        for (int n = 0; n <= 11; n++) {
            NoThree x = n == 0 ? new NoThree() : Due.town("houses " + n + ";");
            for (int none : NO_HOUSES) {
                refusedJoin("a house is none", x, 0, none, 1);
                refusedJoin("both are none", x, none, none, 1);
            }
            refusedJoin("one more than there are", x, 0, n, 1);
            refusedJoin("both are one", x, n - 1, n - 1, 1);
            if (n > 1) {
                Due.is(10, "the last of all", x.why(0, n - 1), 0);
                Due.is(11, "the last of all", x.join(n - 1, 0), 1);
            }
        }
    }

    /** "2 there is a DOOR." */
    private static void joinDoor() {
        NoThree x = Due.town("houses 11;door 0 10;door 3 4;");
        refusedJoin("there is a door", x, 0, 10, 2);
        refusedJoin("there is a door", x, 3, 4, 2);
        Due.is(11, "there is none any more", x.wall(3, 4), 1);
        Due.is(11, "there is none any more", x.join(4, 3), 2);
        refusedJoin("there is one again", x, 3, 4, 2);
    }

    /** "3 a THREE would be": with any third one, not by a three that is there. */
    private static void joinThree() {
        for (int third = 0; third < 11; third++) {
            int a = third == 0 ? 1 : 0;
            int b = third == 10 ? 9 : 10;
            NoThree x = Due.town("houses 11;door " + a + " " + third + ";door " + third + " " + b + ";");
            refusedJoin("a three with " + third, x, a, b, 3);
        }
        NoThree y = Due.town("houses 7;ring 0 1 2;ring 3 4 5;");
        Due.is(10, "threes that are there", y.why(2, 3), 0);
        Due.is(11, "threes that are there", y.join(2, 3), 7);
        refusedJoin("a third three", y, 1, 3, 3);
        Due.is(10, "a round of four is none", Due.town("houses 4;door 0 1;door 1 2;door 2 3;").why(0, 3), 0);
    }

    private static void byRule(String text, String rule, int a, int b, int most) {
        String fits = text + "rule: " + rule + most + ";";
        Due.is(10, "the rule holds then: " + fits, Due.town(fits).why(a, b), 0);
        refusedJoin("the rule would not hold then", Due.town(text + "rule: " + rule + (most - 1) + ";"), a, b, 4);
    }

    /** "4 some RULE would not hold for some HOUSE then that holds for it now": each word, just still and no more. */
    private static void joinRule() {
        byRule("houses 4;door 0 1;", "doors < ", 1, 2, 3);
        byRule("houses 4;door 0 1;", "pairs < ", 2, 3, 3);
        byRule("houses 5;door 0 1;door 2 3;", "far < ", 1, 2, 4);
        byRule("houses 4;door 0 1;door 1 2;door 2 3;", "fours < ", 0, 3, 2);
        byRule("houses 5;door 0 1;door 1 2;door 2 3;door 3 4;", "colours < ", 0, 4, 4);
        byRule("houses 4;", "9 - feast < ", 0, 1, 7);
        byRule("houses 5;door 0 1;door 1 2;door 2 3;door 3 4;", "1 - halves < ", 0, 4, 2);
        // Threes can't come and houses stay, so that these words never hinder.
        Due.is(10, "threes", Due.town("houses 4;rule: threes < 1;").why(0, 1), 0);
        Due.is(10, "houses", Due.town("houses 4;rule: houses = 4;").why(0, 1), 0);
        for (int rule = 0; rule < 6; rule++) {
            String text = "houses 4;" + Due.repeated("rule:1=1;", rule) + "rule:doors=0;" + Due.repeated("rule:2=2;", 5 - rule);
            refusedJoin("rule " + rule, Due.town(text), 2, 3, 4);
        }
        refusedJoin("for the last house", Due.town("houses 11;door 9 10;door 0 1;rule: far < 2;"), 8, 9, 4);
        refusedJoin("for the first house", Due.town("houses 11;door 0 1;rule: far < 2;"), 1, 2, 4);
    }

    /** A rule that doesn't hold now for a house can't hinder by that house. */
    private static void rulesThatDoNotHold() {
        NoThree x = Due.town("houses 4;rule: 1 = 2;rule: doors > 0;");
        Due.is(10, "it holds for none", x.why(0, 1), 0);
        Due.is(11, "it holds for none", x.join(0, 1), 1);
        Due.is(10, "what holds stays", x.why(2, 1), 0);
        // For houses 0 and 1 it doesn't hold; for house 2 it does.
        NoThree y = Due.town("houses 5;door 0 1;rule: doors = 0;");
        Due.is(9, "for two", y.breaches(), 2);
        refusedJoin("by house 2", y, 0, 2, 4);
        Due.is(11, "once house 2 has one by a text", Due.town("houses 5;door 0 1;door 2 3;rule:doors=0;").join(0, 2), 3);
        // A wall makes it hold again.
        NoThree z = Due.town("houses 3;door 0 1;door 1 2;rule: doors < 2;");
        z.wall(1, 2);
        refusedJoin("it holds again", z, 1, 2, 4);
    }

    /** "By the least of." */
    private static void leastReason() {
        // 1 ahead of a rule.
        refusedJoin("1 ahead of 4", Due.town("houses 2;rule: doors = 0;"), 1, 1, 1);
        // A door within a three, and a rule that nobody would keep.
        NoThree x = Due.town("houses 3;ring 0 1 2;rule: doors = 2;rule: pairs = 3;");
        refusedJoin("2 ahead of 3 and 4", x, 0, 1, 2);
        x.wall(0, 1);
        refusedJoin("3 ahead of 4", Due.town("houses 3;door 0 1;door 1 2;rule: pairs = 2;"), 0, 2, 3);
        refusedJoin("4", Due.town("houses 4;door 0 1;door 1 2;rule: pairs = 2;"), 0, 3, 4);
    }

    private static void refusedWall(String sentence, NoThree x, int a, int b, int code) {
        int doors = x.count(1);
        int deeds = x.count(3);
        Due.is(12, sentence + ", wall(" + a + ", " + b + ")", x.wall(a, b), code);
        Due.is(12, sentence + ", wall(" + b + ", " + a + ")", x.wall(b, a), code);
        Due.is(12, sentence + ", doors stay", x.count(1), doors);
        Due.is(12, sentence + ", deeds stay", x.count(3), deeds);
    }

    /** "To WALL: by 1." */
    private static void wallNone() {
        for (int n = 0; n <= 11; n++) {
            NoThree x = n == 0 ? new NoThree() : n < 3 ? Due.town("houses " + n + ";") : Due.town(Due.complete(n));
            for (int none : NO_HOUSES) {
                refusedWall("a house is none", x, 0, none, -11);
                refusedWall("both are none", x, none, none, -11);
            }
            refusedWall("one more than there are", x, 0, n, -11);
            refusedWall("both are one", x, n - 1, n - 1, -11);
            if (n > 2) {
                Due.is(12, "the last of all", x.wall(n - 1, 0), n * (n - 1) / 2 - 1);
            }
        }
    }

    /** "5 (there is none)"; no rule hinders. */
    private static void wallWithoutDoor() {
        NoThree x = Due.town("houses 3;door 0 1;rule: pairs = 1;rule: far < 2;");
        refusedWall("there is none", x, 0, 2, -15);
        refusedWall("there is none", x, 1, 2, -15);
        Due.is(12, "rules don't hinder", x.wall(0, 1), 0);
        Due.is(12, "what a rule held for", x.breaches(), 3);
        refusedWall("there is none any more", x, 0, 1, -15);
    }

    /** "HOUSES that one can JOIN now, as bits. -2." */
    private static void mayNone() {
        for (int none : NO_HOUSES) {
            Due.is(13, "may(" + none + ")", Due.town("houses 11;").may(none), -2);
        }
        Due.is(13, "no houses", new NoThree().may(0), -2);
        Due.is(13, "one alone", Due.town("houses 1;").may(0), 0);
        Due.is(13, "one more than there are", Due.town("houses 1;").may(1), -2);
        NoThree x = Due.town("houses 11;");
        for (int h = 0; h < 11; h++) {
            Due.is(13, "all but itself", x.may(h), 2047 & ~(1 << h));
        }
        Due.is(13, "none", Due.town("houses 3;door 0 1;door 1 2;").may(0), 0);
        Due.is(13, "nobody by a rule", Due.town("houses 3;rule: pairs = 0;").may(0), 0);
        Due.is(13, "nothing is done", x.count(3), 0);
    }

    private static void refusedEntry(String sentence, NoThree x, int set, int code) {
        int houses = x.count(0);
        int doors = x.count(1);
        int deeds = x.count(3);
        Due.is(14, sentence + ", enter(" + set + ")", x.enter(set), code);
        Due.is(14, sentence + ", houses stay", x.count(0), houses);
        Due.is(14, sentence + ", doors stay", x.count(1), doors);
        Due.is(14, sentence + ", deeds stay", x.count(3), deeds);
    }

    /** "1 a set with others than HOUSES." */
    private static void setsOfOthers() {
        for (int n = 0; n <= 11; n++) {
            NoThree x = n == 0 ? new NoThree() : Due.town("houses " + n + ";");
            for (int bit = n; bit < 32; bit++) {
                refusedEntry("another than " + n + " houses", x, 1 << bit, -11);
                refusedEntry("another beside a house", x, 1 << bit | (n > 0 ? 1 : 0), -11);
            }
            refusedEntry("all bits", x, -1, -11);
            if (n < 11) {
                Due.is(14, "all houses", x.enter((1 << n) - 1), n);
                Due.is(14, "all houses", x.count(1), n);
                Due.is(14, "none of them", x.count(0) < 11 ? x.enter(0) : 11, n + 1);
            }
        }
    }

    /** "6 there are 11." */
    private static void elevenHouses() {
        NoThree x = Due.town("houses 10;");
        Due.is(14, "the eleventh", x.enter(1023), 10);
        refusedEntry("there are 11", x, 0, -16);
        refusedEntry("there are 11", x, 1, -16);
        Due.is(15, "one goes", x.leave(0), 10);
        Due.is(14, "the eleventh again", x.enter(0), 10);
        refusedEntry("there are 11", x, 0, -16);
    }

    private static void entryByThree() {
        NoThree x = Due.town("houses 10;door 0 9;ring 3 4 5;");
        refusedEntry("both neighbours", x, 513, -13);
        refusedEntry("both neighbours among all", x, 1023, -13);
        refusedEntry("two of a three", x, 24, -13);
        Due.is(14, "one of a three", x.enter(8 + 1), 10);
    }

    /** "4 (also any RULE that does not hold for the new one)." */
    private static void entryByRule() {
        refusedEntry("not for the new one", Due.town("houses 2;rule: doors > 0;"), 0, -14);
        Due.is(14, "for the new one", Due.town("houses 2;rule: doors > 0;").enter(1), 2);
        refusedEntry("it held for nobody", Due.town("houses 2;rule: 1 = 2;"), 0, -14);
        refusedEntry("no houses yet", Due.town("rule: 1 = 2;"), 0, -14);
        Due.is(14, "no houses yet", Due.town("rule: doors = 0;").enter(0), 0);
        // It didn't hold for the others, and does for the new one.
        Due.is(14, "only for the new one", Due.town("houses 2;door 0 1;rule: doors = 0;").enter(0), 2);
        refusedEntry("an elder has it now", Due.town("houses 2;rule: doors < 1 or doors = 2;"), 3, -14);
        refusedEntry("houses", Due.town("houses 2;rule: houses = 2;"), 0, -14);
        // It holds for nobody now: for the new one it must hold all the same.
        Due.is(14, "houses", Due.town("houses 2;rule: houses = 3;").enter(0), 2);
        refusedEntry("an elder's, not the new one's", Due.town("houses 2;door 0 1;rule: far < 2;"), 1, -14);
        for (int rule = 0; rule < 6; rule++) {
            String text = "houses 1;" + Due.repeated("rule:1=1;", rule) + "rule:doors=1;" + Due.repeated("rule:2=2;", 5 - rule);
            refusedEntry("rule " + rule, Due.town(text), 0, -14);
            Due.is(14, "rule " + rule, Due.town(text).enter(1), 1);
        }
    }

    /** "By the first of: 1, 6, 3, 4." */
    private static void firstReason() {
        String all = "door 0 1;rule: houses < 3;";
        refusedEntry("1 ahead of 6, 3, 4", Due.town("houses 11;" + all), 3 | 1 << 11, -11);
        refusedEntry("1 ahead of 3, 4", Due.town("houses 2;" + all), 7, -11);
        refusedEntry("1 ahead of 4", Due.town("houses 2;" + all), 4, -11);
        refusedEntry("6 ahead of 3, 4", Due.town("houses 11;" + all), 3, -16);
        refusedEntry("6 ahead of 4", Due.town("houses 11;" + all), 0, -16);
        refusedEntry("3 ahead of 4", Due.town("houses 2;" + all), 3, -13);
        refusedEntry("4", Due.town("houses 2;" + all), 1, -14);
    }

    /** "A HOUSE that GOES: 1; its DOORS go, those behind it are numbered one less." */
    private static void houseThatGoes() {
        for (int none : NO_HOUSES) {
            Due.is(15, "leave(" + none + ")", Due.town("houses 11;").leave(none), -11);
        }
        Due.is(15, "no houses", new NoThree().leave(0), -11);
        for (int n = 1; n <= 11; n++) {
            Due.is(15, "one more than there are", Due.town("houses " + n + ";").leave(n), -11);
            for (int gone = 0; gone < n; gone++) {
                // A way through all; each of those behind has the way's doors, but for those to the one that went.
                StringBuilder way = new StringBuilder("houses " + n + ";");
                for (int h = 1; h < n; h++) {
                    way.append("door ").append(h - 1).append(' ').append(h).append(';');
                }
                NoThree x = Due.town(way + "rule: doors > 1;");
                Due.is(15, "leave(" + gone + ") of " + n, x.leave(gone), n - 1);
                Due.is(15, "rules don't hinder", x.count(2), 1);
                for (int h = 0; h < n - 1; h++) {
                    int near = (h > 0 && h != gone ? 1 << h - 1 : 0) | (h < n - 2 && h != gone - 1 ? 1 << h + 1 : 0);
                    Due.is(15, "house " + h + " of " + n + " without " + gone, x.house(h, 1), near);
                }
                Due.is(15, "the last number is free", x.house(n - 1, 1), -2);
                comesBehind(n, gone);
            }
        }
        NoThree y = Due.town(Due.complete(11));
        for (int n = 10; n >= 0; n--) {
            Due.is(15, "all go", y.leave(n / 2), n);
            Due.is(15, "all go", y.count(1), n * (n - 1) / 2);
        }
        Due.is(15, "nobody is left", y.leave(0), -11);
        Due.is(15, "the latest twelve", y.count(3), 11);
    }

    /** "Its DOORS go": who comes in its place has none of them. */
    private static void comesBehind(int n, int gone) {
        NoThree x = Due.town(Due.complete(n));
        x.leave(gone);
        Due.is(15, "a new one has the last number", x.enter(0), n - 1);
        Due.is(15, "a new one has no doors", x.house(n - 1, 1), 0);
        Due.is(15, "nobody has one to it", x.count(1), (n - 1) * (n - 2) / 2);
        Due.is(15, "undone", x.undo(2), 0);
        Due.is(15, "undone", x.count(1), n * (n - 1) / 2);
    }

    /** "5 HOUSES at most; RULES aside"; "-4: there are more than 5". */
    private static void weaveFiveAtMost() {
        for (int n = 0; n <= 11; n++) {
            String told = (n == 0 ? "" : "houses " + n + ";") + (n > 1 ? "door 0 " + (n - 1) + ";" : "");
            NoThree x = Due.town(told + "rule: houses < 1;rule: doors = 0;");
            Due.is(16, "of " + n, x.weave(), n > 5 ? -4 : 2 * n + 1);
            Due.is(16, "deeds of " + n, x.count(3), n > 5 ? 0 : 1);
            Due.is(16, "houses of " + n, x.count(0), n > 5 ? n : 2 * n + 1);
            Due.is(16, "doors of " + n, x.count(1), n > 5 ? 1 : n + (n > 1 ? 3 : 0));
            for (int h = 0; h < n && n <= 5; h++) {
                int near = n > 1 && h == 0 ? 1 << n - 1 : n > 1 && h == n - 1 ? 1 : 0;
                Due.is(16, "a twin of " + n, x.house(n + h, 1), near | 1 << 2 * n);
                Due.is(16, "one of " + n, x.house(h, 1), near | near << n);
            }
            if (n <= 5) {
                Due.is(16, "the one more of " + n, x.house(2 * n, 1), (1 << n) - 1 << n);
            }
        }
        Due.is(16, "threes are woven, too", threesWoven(), 4);
    }

    private static int threesWoven() {
        NoThree x = Due.town("houses 3;ring 0 1 2;");
        x.weave();
        return x.three(-1);
    }

    /** "12 at most (eldest are forgotten)." */
    private static void twelveDeeds() {
        for (int deeds = 0; deeds <= 30; deeds++) {
            NoThree x = Due.town("houses 2;");
            for (int i = 0; i < deeds; i++) {
                Due.is(11, "a deed", i % 2 == 0 ? x.join(0, 1) : x.wall(0, 1), 1 - i % 2);
            }
            int kept = Math.min(deeds, 12);
            Due.is(54, deeds + " deeds", x.count(3), kept);
            Due.is(17, "more than can be", x.undo(kept + 1), -3);
            for (int i = 1; i <= kept; i++) {
                Due.is(17, "the latest first", x.undo(1), kept - i);
                Due.is(17, "the latest first", x.count(1), (deeds - i) % 2);
            }
            Due.is(17, "no more", x.undo(1), -3);
        }
        NoThree y = Due.town("houses 11;");
        for (int h = 10; h >= 0; h--) {
            y.leave(h);
        }
        for (int n = 0; n < 11; n++) {
            y.enter(0);
        }
        Due.is(17, "twelve at once", y.undo(12), 0);
        Due.is(17, "ten deeds are forgotten", y.count(0), 1);
    }

    /** "JOINS, WALLS, new HOUSES, those that GO, WEAVING; each can be UNDONE." */
    private static void everyKindIsUndone() {
        NoThree x = Due.town("houses 4;ring 0 1 2 3;rule: doors < 9;");
        x.wall(2, 3);
        x.join(2, 3);
        x.enter(5);
        x.leave(1);
        x.leave(0);
        x.wall(0, 1);
        x.join(1, 2);
        x.weave();
        Due.is(54, "eight deeds", x.count(3), 8);
        int[][] due = {{3, 2}, {3, 1}, {3, 2}, {4, 4}, {5, 6}, {4, 4}, {4, 3}, {4, 4}};
        for (int i = 0; i < due.length; i++) {
            Due.is(17, "undone", x.undo(1), 7 - i);
            Due.is(17, "houses, " + i, x.count(0), due[i][0]);
            Due.is(17, "doors, " + i, x.count(1), due[i][1]);
        }
        for (int h = 0; h < 4; h++) {
            Due.is(17, "as it was told", x.house(h, 1), 1 << (h + 1) % 4 | 1 << (h + 3) % 4);
        }
        Due.is(17, "rules stay", x.count(2), 1);
        // Grown ones, drawn ones and performed ones are deeds, each by itself; judged ones and changing are none.
        Due.is(20, "two grow", x.grow(2), 2);
        Due.is(17, "one of both", x.undo(1), 1);
        Due.is(17, "one of both", x.count(0), 5);
        x.numbers(0, 1, 2);
        x.write(0, 0, 1);
        x.write(0, 1, 1);
        Due.is(19, "two acts", x.perform(0), 2);
        Due.is(17, "one of both", x.undo(1), 2);
        Due.is(17, "one of both", x.house(0, 1) & 2, 0);
        Due.is(17, "the other one", x.undo(1), 1);
        Due.is(17, "the other one", x.house(0, 1) & 2, 2);
        x.judge(0, 0);
        x.changing(99, 0);
        Due.is(17, "as if", x.count(3), 1);
        int drawn = x.century(5, 10);
        Due.is(17, "drawn ones", x.count(3), 1 + drawn);
    }

    /** "n DEEDS (1 to 12)"; "-3: n, more than can be". */
    private static void undoBounds() {
        for (int n : new int[] {0, 1, -1, 2, 12, 13, Integer.MIN_VALUE, Integer.MAX_VALUE}) {
            Due.is(17, "undo(" + n + ") of none", Due.town("houses 3;").undo(n), -3);
        }
        for (int n = -1; n <= 14; n++) {
            NoThree x = Due.town("houses 11;");
            for (int i = 0; i < 14; i++) {
                x.leave(0);
                x.enter(0);
            }
            x.undo(5);
            Due.is(17, "undo(" + n + ") of 7", x.undo(n), n < 1 || n > 7 ? -3 : 7 - n);
            Due.is(17, "undo(" + n + ") of 7, left", x.count(3), n < 1 || n > 7 ? 7 : 7 - n);
            x.century(1, 60);
            x.leave(0);
            x.enter(0);
            while (x.count(3) < 12) {
                x.leave(0);
            }
            Due.is(17, "undo(" + n + ") of 12", x.undo(n), n < 1 || n > 12 ? -3 : 12 - n);
        }
    }

    private static NoThree acts(NoThree x, int row, long... acts) {
        x.numbers(row, 3, acts.length);
        for (int i = 0; i < acts.length; i++) {
            x.write(row, i, acts[i]);
        }
        return x;
    }

    private static void judged(String sentence, NoThree x, int row, int... due) {
        for (int what = 0; what < 4; what++) {
            Due.is(18, sentence + ", judge(" + row + ", " + what + ")", x.judge(row, what), due[what]);
        }
    }

    /** "1: why (0; 1 for what is no pair of HOUSES)"; "numbers 100 times a HOUSE, and another one". */
    private static void actsThatCannotBe() {
        for (int n = 0; n <= 11; n++) {
            NoThree x = n == 0 ? new NoThree() : Due.town("houses " + n + ";");
            for (long act = -2; act <= 1202; act++) {
                long a = act / 100;
                long b = act % 100;
                boolean pair = act >= 0 && a != b && a < n && b < n;
                // Each by itself, so that the object's calls stay few.
                if (pair || act < 2 || b <= 11 && a <= 12 && (b == n || a == n || a == b) || b == 99) {
                    NoThree y = acts(n == 0 ? new NoThree() : Due.town("houses " + n + ";"), 1, act);
                    Due.is(18, "act " + act + " of " + n, y.judge(1, 1), pair ? 0 : 1);
                    Due.is(18, "act " + act + " of " + n, y.judge(1, 0), pair ? -1 : 0);
                    Due.is(19, "act " + act + " of " + n, y.perform(1), pair ? 1 : 0);
                    Due.is(19, "act " + act + " of " + n, y.count(1), pair ? 1 : 0);
                }
            }
            for (long act : new long[] {Long.MIN_VALUE, Long.MAX_VALUE, 1L << 32 | 1, (1L << 32) + 100, -1L << 32 | 1, -100, -99}) {
                acts(x, 0, act);
                judged("act " + act, x, 0, 0, 1, 0, 0);
            }
        }
        NoThree y = Due.town("houses 5;door 0 1;door 1 2;rule: doors < 3;door 3 4;rule: pairs < 5;");
        judged("3 for a three", acts(y, 0, 2), 0, 0, 3, 3, 0);
        judged("4 for a rule", acts(y, 0, 3, 204), 0, 1, 4, 4, 0);
        judged("1 for one house", acts(y, 0, 303), 0, 0, 1, 3, 0);
        // 2 and 5 are never told: where there is a door it is walled, else both join.
        judged("a door is walled", acts(y, 0, 1, 1, 1), 0, -1, 0, 2, 0);
        judged("either way round", acts(y, 0, 100, 1, 100), 0, -1, 0, 2, 0);
    }

    /** "-2: the ROW, what; -6"; nothing is done by judging; an empty row can be. */
    private static void actsAsIf() {
        NoThree x = Due.town("houses 4;ring 0 1 2;");
        for (int row : new int[] {-1, 4, Integer.MIN_VALUE, Integer.MAX_VALUE}) {
            Due.is(18, "judge(" + row + ", 0)", x.judge(row, 0), -2);
            Due.is(19, "perform(" + row + ")", x.perform(row), -2);
        }
        for (int row = 0; row < 4; row++) {
            for (int what : new int[] {-1, 4, Integer.MIN_VALUE, Integer.MAX_VALUE}) {
                Due.is(18, "what ahead of a missing row", x.judge(row, what), -2);
            }
            Due.is(18, "a missing row", x.judge(row, 0), -6);
            Due.is(18, "a missing row", x.judge(row, 3), -6);
            Due.is(19, "a missing row", x.perform(row), -6);
        }
        acts(x, 2);
        judged("an empty row", x, 2, -1, 0, 3, 1);
        Due.is(19, "an empty row", x.perform(2), 0);
        acts(x, 3, 1, 3, 303, 2);
        judged("as if done", x, 3, 2, 1, 3, 0);
        Due.is(18, "nothing is done", x.house(0, 1), 6);
        Due.is(18, "nothing is done", x.count(3), 0);
        Due.is(18, "what, of a row that is there", x.judge(3, 4), -2);
        // Forty acts.
        x.numbers(0, 0, 40);
        for (int i = 0; i < 40; i++) {
            x.write(0, i, 3);
        }
        judged("forty acts", x, 0, -1, 0, 3, 1);
        x.wall(1, 0);
        x.wall(2, 0);
        judged("forty acts", x, 0, -1, 0, 1, 0);
        x.write(0, 39, 0);
        judged("the last of forty", x, 0, 39, 1, 2, 0);
        Due.is(19, "all but the last", x.perform(0), 39);
        Due.is(19, "all but the last", x.count(1), 2);
    }

    /** "They are done as far as they can: how many." */
    private static void actsAsFarAsTheyCan() {
        NoThree x = Due.town("houses 4;rule: doors < 3;");
        Due.is(19, "the first can't be", acts(x, 0, 0, 1, 2).perform(0), 0);
        Due.is(19, "the second can't be", acts(x, 0, 1, 0, 2).perform(0), 1);
        Due.is(19, "deeds", x.count(3), 1);
        Due.is(19, "the last can't be", acts(x, 0, 2, 102).perform(0), 1);
        Due.is(19, "none can't be", acts(x, 0, 1, 2, 3).perform(0), 3);
        Due.is(19, "by a rule", acts(x, 0, 1, 2, 3).perform(0), 1);
        // More acts than deeds that can be undone.
        x.numbers(0, 1, 40);
        for (int i = 0; i < 40; i++) {
            x.write(0, i, 203);
        }
        Due.is(19, "forty", x.perform(0), 40);
        Due.is(19, "twelve deeds", x.count(3), 12);
        // What was done ahead of an act counts for it.
        NoThree y = Due.town("houses 3;door 0 1;door 1 2;");
        judged("the wall makes room", acts(y, 0, 1, 2), 0, -1, 0, 2, 0);
        judged("without the wall", acts(y, 0, 2), 0, 0, 3, 2, 0);
    }

    /** "n HOUSES (1 to 11)"; "-3". */
    private static void growBounds() {
        for (int n = -2; n <= 14; n++) {
            NoThree x = new NoThree();
            Due.is(20, "grow(" + n + ")", x.grow(n), n < 1 || n > 11 ? -3 : n);
            Due.is(20, "grow(" + n + ")", x.count(0), n < 1 || n > 11 ? 0 : n);
        }
        Due.is(20, "grow(min)", new NoThree().grow(Integer.MIN_VALUE), -3);
        Due.is(20, "grow(max)", new NoThree().grow(Integer.MAX_VALUE), -3);
        Due.is(20, "-3 of a full town, too", Due.town("houses 11;").grow(0), -3);
    }

    /** "Till one can't": there are 11, or a rule. */
    private static void growTillOneCannot() {
        for (int n = 1; n <= 11; n++) {
            NoThree x = Due.town("houses " + n + ";");
            Due.is(20, "11 at most", x.grow(11), 11 - n);
            Due.is(20, "11 at most", x.count(0), 11);
            Due.is(20, "each a deed", x.count(3), 11 - n);
        }
        Due.is(20, "by a rule at once", Due.town("houses 3;rule: houses = 3;").grow(1), 0);
        Due.is(20, "by a rule of none", Due.town("rule: 1 = 2;").grow(11), 0);
        Due.is(20, "by a rule later", Due.town("rule: houses < 4;").grow(11), 3);
        Due.is(20, "by a rule later", Due.town("houses 2;rule: pairs < 3;").grow(11), 9);
    }

    private static void grown(String text, int set) {
        NoThree x = Due.town(text);
        int n = x.count(0);
        Due.is(20, "grow(1): " + text, x.grow(1), 1);
        Due.is(20, "joins: " + text, x.house(n, 1), set);
    }

    /** "The largest FEAST (of like ones the least as bits) by which it can come by RULES, none else." */
    private static void growByRules() {
        grown("", 0);
        grown("houses 1;", 1);
        grown("houses 10;", 1023);
        grown("houses 2;door 0 1;", 1);
        grown("houses 4;door 0 1;door 2 3;", 5);
        grown("houses 4;door 0 2;door 1 3;", 3);
        grown("houses 5;door 0 1;door 0 2;door 0 3;door 0 4;", 30);
        grown("houses 3;ring 0 1 2;", 1);
        grown("houses 3;rule: doors < 2;", 1);
        grown("houses 3;rule: doors < 3;", 3);
        grown("houses 3;rule: doors = 0;", 0);
        grown("houses 3;door 0 1;rule: doors < 2;", 4);
        grown("houses 4;door 0 1;rule: doors < 2;", 4);
        grown("houses 4;rule: pairs = 2;", 3);
        grown("houses 4;door 0 3;rule: pairs = 2 or pairs = 1;", 1);
    }

    /** "(1 to 60)"; "-3: how many times; -5: no HOUSES". */
    private static void centuryBounds() {
        for (int times : new int[] {0, 61, -1, Integer.MIN_VALUE, Integer.MAX_VALUE}) {
            Due.is(21, "times " + times, Due.town("houses 3;").century(1, times), -3);
            Due.is(21, "times ahead of no houses", new NoThree().century(1, times), -3);
        }
        for (int times : new int[] {1, 2, 59, 60}) {
            Due.is(21, "no houses", new NoThree().century(1, times), -5);
            Due.is(21, "one alone", Due.town("houses 1;").century(1, times), 0);
            Due.is(21, "as drawn", Due.town("houses 11;").century(3, times), drawnOf(Due.town("houses 11;"), 11, 3, times));
        }
        NoThree x = Due.town("houses 3;");
        x.leave(0);
        x.leave(0);
        x.leave(0);
        Due.is(21, "no houses any more", x.century(1, 1), -5);
        Due.is(21, "no deed", x.count(3), 3);
    }

    /** "x becomes 1103515245 x + 12345, it is x >>> 16": x is an int that wraps around, a draw is never below 0. */
    private static void drawsWrapAround() {
        int[] seeds = {0, 1, -1, 2, 12345, -12345, Integer.MIN_VALUE, Integer.MAX_VALUE, Integer.MIN_VALUE + 1, 0x7FFF0000,
            0x80000001, 0xFFFF0000, 65535, 65536, 1103515245, -1103515245};
        for (int seed : seeds) {
            for (int n = 1; n <= 11; n++) {
                String text = "houses " + n + ";rule: doors < 5;";
                NoThree x = Due.town(text);
                NoThree y = Due.town(text);
                Due.is(21, "century(" + seed + ", 30) of " + n, x.century(seed, 30), drawnOf(y, n, seed, 30));
                for (int h = 0; h < n; h++) {
                    Due.is(21, "century(" + seed + ", 30) of " + n, x.house(h, 1), y.house(h, 1));
                }
                Due.is(21, "century(" + seed + ", 30) of " + n, x.count(3), y.count(3));
            }
        }
    }

    /** A century by single deeds; draws are reckoned with longs here. */
    private static int drawnOf(NoThree x, int houses, int seed, int times) {
        long drawn = seed & 0xFFFFFFFFL;
        int[] three = new int[3];
        int done = 0;
        for (int i = 0; i < times; i++) {
            for (int k = 0; k < 3; k++) {
                drawn = (1103515245L * drawn + 12345L) % (1L << 32);
                three[k] = (int) (drawn / 65536L);
            }
            int a = three[0] % houses;
            int b = three[1] % houses;
            done += (three[2] % 4 == 0 ? x.wall(a, b) : x.join(a, b)) >= 0 ? 1 : 0;
        }
        return done;
    }
}
