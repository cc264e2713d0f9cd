/** What the document says of the bounds of questions about THE TOWN: promises 5 to 9 and 22 to 34. */
final class AskBoundsTest {
    private static final int[] FAR_NUMBERS = {-2, 12, 32, 1 << 16, Integer.MIN_VALUE, Integer.MAX_VALUE};

    public static void main(String[] args) {
        housesThatAreNone();
        whatOfAHouse();
        leastAndMostOfAHouse();
        stepsBetween();
        rulesThatAreNone();
        keptWithinAMillion();
        keptEachTime();
        brokenFirst();
        breachesOfAll();
        threeByThree();
        foursOfFewAndMany();
        scandals();
        halvesOfParts();
        strangersOfFewAndMany();
        sixOfFive();
        feastsOfNone();
        fullOnes();
        largestFeast();
        coloursFromNoneToEleven();
        firstColours();
        waysBounds();
        dearOnes();
        Due.end();
    }

    private static NoThree houses(int n) {
        return n == 0 ? new NoThree() : Due.town("houses " + n + ";");
    }

    private static NoThree way(int n, int parts) {
        StringBuilder text = new StringBuilder("houses " + n + ";");
        for (int h = parts; h < n; h++) {
            text.append("door ").append(h - parts).append(' ').append(h).append(';');
        }
        return Due.town(text.toString());
    }

    private static NoThree ring(int n) {
        StringBuilder text = new StringBuilder("houses " + n + ";ring");
        for (int h = 0; h < n; h++) {
            text.append(' ').append(h);
        }
        return Due.town(text + ";");
    }

    /** "-2": there is no such HOUSE. */
    private static void housesThatAreNone() {
        for (int n = 0; n <= 11; n++) {
            NoThree x = houses(n);
            for (int h : new int[] {-1, n, n + 1, 11, 12, -2, 32, Integer.MIN_VALUE, Integer.MAX_VALUE}) {
                for (int what = -1; what < 8; what++) {
                    Due.is(5, "house(" + h + ", " + what + ") of " + n, x.house(h, what), -2);
                }
                Due.is(32, "colour(" + h + ") of " + n, x.colour(h), -2);
                Due.is(30, "feast(" + h + ") of " + n, x.feast(h), h == -1 ? (1 << n) - 1 : -2);
            }
        }
    }

    /** "What 0 .. 6. -2." */
    private static void whatOfAHouse() {
        NoThree x = Due.town("houses 2;door 0 1;");
        for (int what : new int[] {-1, 7, 8, 32, Integer.MIN_VALUE, Integer.MAX_VALUE}) {
            Due.is(5, "house(0, " + what + ")", x.house(0, what), -2);
        }
        int[] due = {1, 2, 0, 0, 1, 3, 0};
        for (int what = 0; what < 7; what++) {
            Due.is(5, "house(0, " + what + ")", x.house(0, what), due[what]);
        }
    }

    private static void leastAndMostOfAHouse() {
        for (int n = 1; n <= 11; n++) {
            NoThree all = Due.town(Due.complete(n));
            int others = n - 1;
            int[] due = {others, (1 << n) - 1 & ~(1 << others), others * (n - 2) / 2, 3 * others * (n - 2) * (n - 3) / 6,
                n > 1 ? 1 : 0, (1 << n) - 1, 0};
            int[] alone = {0, 0, 0, 0, 0, 1 << others, 0};
            for (int what = 0; what < 7; what++) {
                Due.is(5, "all " + n + " neighbours, " + what, all.house(others, what), due[what]);
                Due.is(5, n + " alone, " + what, houses(n).house(others, what), alone[what]);
            }
            NoThree way = way(n, 1);
            Due.is(5, "far, at the end of a way of " + n, way.house(0, 4), n - 1);
            Due.is(5, "far, in the middle of a way of " + n, way.house(n / 2, 4), n / 2);
            Due.is(5, "two steps away, from the end", way.house(0, 6), n > 2 ? 4 : 0);
        }
        NoThree two = way(11, 2);
        Due.is(5, "reached in its part", two.house(0, 5), 0x555);
        Due.is(5, "reached in its part", two.house(1, 5), 0x2AA);
        Due.is(5, "the farthest in its part", two.house(0, 4), 5);
        Due.is(5, "two steps away, not a neighbour", Due.town("houses 4;ring 0 1 2;door 2 3;").house(0, 6), 8);
        Due.is(5, "two steps away, by two ways", Due.town("houses 4;ring 0 1 2 3;").house(0, 6), 4);
    }

    /** "-2; NONE: no way." */
    private static void stepsBetween() {
        for (int n = 0; n <= 11; n++) {
            NoThree x = houses(n);
            Due.is(6, "one more than there are", x.steps(0, n), -2);
            Due.is(6, "one more than there are", x.steps(n, 0), -2);
            Due.is(6, "both are none", x.steps(n, n), -2);
            Due.is(6, "-1", x.steps(-1, n - 1), -2);
            Due.is(6, "-1", x.steps(n - 1, -1), -2);
            for (int far : FAR_NUMBERS) {
                Due.is(6, "steps(0, " + far + ")", x.steps(0, far), -2);
                Due.is(6, "steps(" + far + ", 0)", x.steps(far, 0), -2);
            }
            for (int h = 0; h < n; h++) {
                Due.is(6, "to itself", x.steps(h, h), 0);
                Due.is(6, "no way", x.steps(h, (h + 1) % n), n == 1 ? 0 : -1);
                Due.is(6, "on a way of " + n, way(n, 1).steps(0, h), h);
                Due.is(6, "on a way of " + n, way(n, 1).steps(h, 0), h);
            }
        }
    }

    /** "-2: one of both." */
    private static void rulesThatAreNone() {
        for (int rules = 0; rules <= 6; rules++) {
            NoThree x = Due.town("houses 11;" + Due.repeated("rule:1=1;", rules));
            for (int rule : new int[] {-1, rules, 6, 7, Integer.MIN_VALUE, Integer.MAX_VALUE}) {
                Due.is(7, "rule " + rule + " of " + rules, x.holds(rule, 0), -2);
            }
            for (int rule = 0; rule < rules; rule++) {
                Due.is(7, "rule " + rule + " of " + rules, x.holds(rule, 10), 1);
                Due.is(7, "no house", x.holds(rule, 11), -2);
                Due.is(7, "no house", x.holds(rule, -1), -2);
                for (int far : FAR_NUMBERS) {
                    Due.is(7, "no house", x.holds(rule, far), -2);
                }
            }
        }
        Due.is(7, "no houses", Due.town("rule:1=1;").holds(0, 0), -2);
        Due.is(7, "both", new NoThree().holds(0, 0), -2);
    }

    private static void holds(String rule) {
        Due.is(7, "holds: " + rule, Due.town("houses 1;rule:" + rule + ";").holds(0, 0), 1);
        Due.is(7, "not: " + rule, Due.town("houses 1;rule:not[" + rule + "];").holds(0, 0), 0);
    }

    /** "Each + - * kept from -1,000,000 to 1,000,000": the bounds themselves are reached, one more is not. */
    private static void keptWithinAMillion() {
        String million = "100*100*100";
        String oneLess = "(999*999+999+999)";
        holds(oneLess + "+1=" + million);
        holds(million + "-1=" + oneLess);
        holds(oneLess + "<" + million);
        holds(oneLess + "+2=" + million);
        holds(million + "+1=" + million);
        holds(million + "+" + million + "=" + million);
        holds("not " + million + "+1>" + million);
        holds("100*100*101=" + million);
        holds("999*999*999=" + million);
        holds("0-" + million + "<0-" + oneLess);
        holds("0-" + oneLess + "-1=0-" + million);
        holds("0-" + oneLess + "-2=0-" + million);
        holds("0-" + million + "-1=0-" + million);
        holds("0-" + million + "-" + million + "=0-" + million);
        holds("(0-100)*100*101=0-" + million);
        holds("(0-100)*100*100=0-" + million);
        holds("(0-999)*999*999=0-" + million);
        holds("(0-999)*(0-999)*2=" + million);
        holds("(0-" + million + ")*(0-" + million + ")=" + million);
        holds("(0-" + million + ")*(" + million + ")=0-" + million);
        holds("0-(0-" + million + ")-1=" + oneLess);
        holds("0+0=0*5");
    }

    /** Each is kept by itself, from the left to the right, * ahead of + and -. */
    private static void keptEachTime() {
        String million = "100*100*100";
        holds(million + "+5-5=999*999+999+995");
        holds(million + "-5+5=" + million);
        holds("5+" + million + "-5=999*999+999+995");
        holds("100*100*101-1=999*999+999+999");
        holds(million + "*2-" + million + "=0");
        holds("0-" + million + "-7+7=7-" + million);
        holds("100*100*100*100*0=0");
        holds("2*3+4*5=26");
        holds("9-3-2=4");
        holds("2-3*4=0-10");
        holds("1-2<0");
    }

    /** "The first HOUSE for which some RULE does not hold, the first such RULE there. NONE: there is none; -2." */
    private static void brokenFirst() {
        for (int what : new int[] {-1, 2, 3, Integer.MIN_VALUE, Integer.MAX_VALUE}) {
            Due.is(8, "broken(" + what + "), ahead of NONE", new NoThree().broken(what), -2);
            Due.is(8, "broken(" + what + ")", Due.town("houses 1;rule:1=2;").broken(what), -2);
        }
        for (int what = 0; what < 2; what++) {
            Due.is(8, "no houses, no rules", new NoThree().broken(what), -1);
            Due.is(8, "no houses", Due.town("rule:1=2;").broken(what), -1);
            Due.is(8, "no rules", Due.town("houses 11;").broken(what), -1);
            Due.is(8, "all hold", Due.town("houses 11;rule:doors=0;").broken(what), -1);
        }
        for (int h = 0; h < 11; h++) {
            for (int rule = 0; rule < 6; rule++) {
                String text = "houses 11;door " + h + " " + (h + 1) % 11 + ";";
                NoThree x = Due.town(text + Due.repeated("rule:1=1;", rule) + Due.repeated("rule:doors=0;", 6 - rule));
                Due.is(8, "the first house", x.broken(0), h == 10 ? 0 : h);
                Due.is(8, "the first rule there", x.broken(1), rule);
            }
        }
        // Rule 0 is broken for house 2, rule 1 for house 1: by houses first.
        NoThree y = Due.town("houses 3;door 0 1;rule:doors>0;rule:doors=0 or 1=2;");
        Due.is(8, "by houses first", y.broken(0), 0);
        Due.is(8, "by houses first", y.broken(1), 1);
    }

    /** "In how many cases (RULES by HOUSES) one does not hold." */
    private static void breachesOfAll() {
        for (int n = 0; n <= 11; n++) {
            for (int rules = 0; rules <= 6; rules++) {
                String text = n == 0 ? "" : "houses " + n + ";";
                Due.is(9, "all cases", Due.town(text + Due.repeated("rule:1=2;", rules)).breaches(), n * rules);
                Due.is(9, "no case", Due.town(text + Due.repeated("rule:1=1;", rules)).breaches(), 0);
            }
        }
    }

    /** "k NONE: how many. NONE: not so many." */
    private static void threeByThree() {
        for (int n = 0; n <= 11; n++) {
            NoThree x = n == 0 ? new NoThree() : Due.town(Due.complete(n));
            int k = 0;
            for (int a = 0; a < n; a++) {
                for (int b = a + 1; b < n; b++) {
                    for (int c = b + 1; c < n; c++) {
                        Due.is(22, "three(" + k + ") of all " + n, x.three(k), 10000 * a + 100 * b + c);
                        k++;
                    }
                }
            }
            Due.is(22, "how many of all " + n, x.three(-1), k);
            Due.is(22, "not so many", x.three(k), -1);
            for (int far : new int[] {k + 1, 165, 1000, -2, -3, Integer.MIN_VALUE, Integer.MAX_VALUE}) {
                Due.is(22, "three(" + far + ") of all " + n, x.three(far), -1);
            }
            Due.is(22, "none of " + n + " alone", houses(n).three(-1), 0);
            Due.is(22, "none of " + n + " alone", houses(n).three(0), -1);
        }
    }

    private static void foursOfFewAndMany() {
        int[] due = {0, 0, 0, 0, 3, 15, 45, 105, 210, 378, 630, 990};
        for (int n = 1; n <= 11; n++) {
            Due.is(23, "all " + n, Due.town(Due.complete(n)).fours(), due[n]);
            Due.is(23, n + " alone", houses(n).fours(), 0);
            Due.is(23, "a ring of " + n, n < 3 ? 0 : ring(n).fours(), n == 4 ? 1 : 0);
        }
        Due.is(23, "none", new NoThree().fours(), 0);
    }

    /** "The fewest HOUSES in a ring of odd many. NONE: there is none." */
    private static void scandals() {
        Due.is(24, "none", new NoThree().scandal(), -1);
        for (int n = 1; n <= 11; n++) {
            Due.is(24, n + " alone", houses(n).scandal(), -1);
            Due.is(24, "a way of " + n, way(n, 1).scandal(), -1);
            if (n > 2) {
                Due.is(24, "a ring of " + n, ring(n).scandal(), n % 2 == 1 ? n : -1);
                Due.is(24, "all " + n, Due.town(Due.complete(n)).scandal(), 3);
                NoThree x = ring(n);
                x.wall(0, n - 1);
                Due.is(24, "a ring of " + n + " less a door", x.scandal(), -1);
            }
        }
        Due.is(24, "three by three", Due.town("houses 6;ring 0 3 1 4 2 5;door 0 4;door 1 5;door 2 3;").scandal(), -1);
    }

    /** "Of each part of THE TOWN that hangs together the least HOUSE is in the first. NONE: there are none." */
    private static void halvesOfParts() {
        Due.is(25, "no houses", new NoThree().halves(), 0);
        for (int n = 1; n <= 11; n++) {
            Due.is(25, n + " alone", houses(n).halves(), (1 << n) - 1);
            Due.is(25, "a way of " + n, way(n, 1).halves(), 0x555 & (1 << n) - 1);
            Due.is(25, "two ways of " + n, way(n, 2).halves(), 0x333 & (1 << n) - 1);
            if (n > 2) {
                Due.is(25, "a ring of " + n, ring(n).halves(), n % 2 == 1 ? -1 : 0x555 & (1 << n) - 1);
            }
        }
        Due.is(25, "the last part has none", Due.town("houses 11;ring 8 9 10;").halves(), -1);
        Due.is(25, "the least of its part", Due.town("houses 5;door 4 1;door 4 2;door 3 2;").halves(), 7);
    }

    private static void strangersOfFewAndMany() {
        Due.is(26, "no houses", new NoThree().strangers(), 0);
        for (int n = 1; n <= 11; n++) {
            Due.is(26, n + " alone", houses(n).strangers(), n * (n - 1) * (n - 2) / 6);
            Due.is(26, "all " + n, Due.town(Due.complete(n)).strangers(), 0);
        }
    }

    /** "NONE: fewer than six HOUSES; -2"; "the least as bits". */
    private static void sixOfFive() {
        for (int n = 0; n <= 11; n++) {
            NoThree x = houses(n);
            Due.is(27, "how many of " + n, x.six(0), n < 6 ? -1 : 20);
            Due.is(27, "the set of " + n, x.six(1), n < 6 ? -1 : 63);
            for (int what : new int[] {-1, 2, Integer.MIN_VALUE, Integer.MAX_VALUE}) {
                Due.is(27, "six(" + what + ") of " + n, x.six(what), -2);
            }
            if (n > 5) {
                Due.is(27, "all " + n, Due.town(Due.complete(n)).six(0), 20);
                Due.is(27, "all " + n, Due.town(Due.complete(n)).six(1), 63);
            }
        }
        NoThree last = Due.town("houses 11;ring 5 8 6 9 7 10;door 5 9;door 6 10;door 7 8;");
        Due.is(27, "the last six", last.six(0), 2);
        Due.is(27, "the last six", last.six(1), 0x7E0);
        NoThree six = Due.town("houses 6;ring 0 1 2;ring 3 4 5;");
        Due.is(27, "all sixes have two at least", six.six(0), 2);
    }

    /** "(none invited, too)." */
    private static void feastsOfNone() {
        Due.is(28, "no houses", new NoThree().feasts(), 1);
        for (int n = 1; n <= 11; n++) {
            Due.is(28, n + " alone", houses(n).feasts(), 1 << n);
            Due.is(28, "all " + n, Due.town(Due.complete(n)).feasts(), n + 1);
        }
    }

    private static void fullOnes() {
        Due.is(29, "no houses", new NoThree().full(), 1);
        for (int n = 1; n <= 11; n++) {
            Due.is(29, n + " alone", houses(n).full(), 1);
            Due.is(29, "all " + n, Due.town(Due.complete(n)).full(), n);
        }
        Due.is(29, "five doors", way(10, 5).full(), 32);
    }

    /** "The largest FEAST (with a HOUSE; h NONE: at all), the least as bits. -2." */
    private static void largestFeast() {
        Due.is(30, "no houses", new NoThree().feast(-1), 0);
        for (int n = 1; n <= 11; n++) {
            NoThree all = Due.town(Due.complete(n));
            Due.is(30, "all " + n, all.feast(-1), 1);
            for (int h = 0; h < n; h++) {
                Due.is(30, n + " alone, with " + h, houses(n).feast(h), (1 << n) - 1);
                Due.is(30, "all " + n + ", with " + h, all.feast(h), 1 << h);
            }
            for (int h : new int[] {n, 11, -2, Integer.MIN_VALUE, Integer.MAX_VALUE}) {
                Due.is(30, "feast(" + h + ")", all.feast(h), -2);
            }
        }
        Due.is(30, "the least of 32", way(10, 5).feast(-1), 31);
        Due.is(30, "the least with the last", way(10, 5).feast(9), 15 | 512);
    }

    private static void coloursFromNoneToEleven() {
        Due.is(31, "no houses", new NoThree().colours(), 0);
        for (int n = 1; n <= 11; n++) {
            Due.is(31, n + " alone", houses(n).colours(), 1);
            Due.is(31, "all " + n, Due.town(Due.complete(n)).colours(), n);
            Due.is(31, "a way of " + n, way(n, 1).colours(), n > 1 ? 2 : 1);
            if (n > 2) {
                Due.is(31, "a ring of " + n, ring(n).colours(), 2 + n % 2);
                NoThree less = Due.town(Due.complete(n));
                less.wall(n - 2, n - 1);
                Due.is(31, "all " + n + " less a door", less.colours(), n - 1);
            }
        }
    }

    private static void firstColours() {
        Due.is(32, "no houses", new NoThree().colour(0), -2);
        for (int n = 1; n <= 11; n++) {
            NoThree all = Due.town(Due.complete(n));
            for (int h = 0; h < n; h++) {
                Due.is(32, "all " + n, all.colour(h), h);
                Due.is(32, n + " alone", houses(n).colour(h), 0);
                Due.is(32, "a way of " + n, way(n, 1).colour(h), h % 2);
                if (n > 2) {
                    Due.is(32, "a ring of " + n, ring(n).colour(h), n % 2 == 1 && h == n - 1 ? 2 : h % 2);
                }
            }
        }
    }

    /** "WAYS with k COLOURS (0 to 6). -3." */
    private static void waysBounds() {
        for (int k : new int[] {-1, 7, 8, Integer.MIN_VALUE, Integer.MAX_VALUE}) {
            Due.is(33, "ways(" + k + ")", new NoThree().ways(k), -3);
            Due.is(33, "ways(" + k + ")", houses(11).ways(k), -3);
        }
        for (int k = 0; k <= 6; k++) {
            Due.is(33, "no houses", new NoThree().ways(k), 1);
            long alone = 1;
            long way = k;
            long all = 1;
            for (int n = 1; n <= 11; n++) {
                alone *= k;
                all *= k - n + 1;
                Due.is(33, n + " alone, with " + k, houses(n).ways(k), alone);
                Due.is(33, "a way of " + n + ", with " + k, way(n, 1).ways(k), way);
                Due.is(33, "all " + n + ", with " + k, Due.town(Due.complete(n)).ways(k), all);
                way *= k - 1;
            }
        }
    }

    /** "The HOUSE without which fewer COLOURS do, the first. NONE: there is none." */
    private static void dearOnes() {
        Due.is(34, "no houses", new NoThree().dear(), -1);
        Due.is(34, "one alone", houses(1).dear(), 0);
        for (int n = 2; n <= 11; n++) {
            Due.is(34, n + " alone", houses(n).dear(), -1);
            Due.is(34, "all " + n, Due.town(Due.complete(n)).dear(), 0);
            if (n > 2) {
                Due.is(34, "a ring of " + n, ring(n).dear(), n % 2 == 1 ? 0 : -1);
            }
            Due.is(34, "a door of the last two", Due.town("houses " + n + ";door " + (n - 2) + " " + (n - 1) + ";").dear(), n - 2);
        }
        Due.is(34, "the last of all", Due.town("houses 11;door 0 10;door 1 10;").dear(), 10);
    }
}
