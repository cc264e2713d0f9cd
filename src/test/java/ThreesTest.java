/** Promises 22 to 27: threes, rounds of four, scandals, halves, strangers, six houses. */
final class ThreesTest {
    public static void main(String[] args) {
        three();
        fours();
        scandal();
        halves();
        strangers();
        six();
        Due.end();
    }

    private static void three() {
        NoThree x = Due.town("houses 6;ring 0 1 2;door 1 3;door 2 3;ring 2 4 5;");
        int[] due = {102, 10203, 20405, -1};
        Due.is(22, "three(-1)", x.three(-1), 3);
        for (int k = 0; k < 4; k++) {
            Due.is(22, "three(" + k + ")", x.three(k), due[k]);
        }
        Due.is(22, "three(-2)", x.three(-2), -1);
        Due.is(22, "three(min)", x.three(Integer.MIN_VALUE), -1);
        Due.is(22, "three(max)", x.three(Integer.MAX_VALUE), -1);
        NoThree all = Due.town(Due.complete(11));
        Due.is(22, "all", all.three(-1), 165);
        Due.is(22, "the last", all.three(164), 80910);
        Due.is(22, "behind it", all.three(165), -1);
        Due.is(22, "none", Due.town("houses 3;").three(0), -1);
    }

    private static void fours() {
        Due.is(23, "a ring of four", Due.town("houses 4;ring 0 1 2 3;").fours(), 1);
        Due.is(23, "with a door across", Due.town("houses 4;ring 0 1 2 3;door 0 2;").fours(), 1);
        Due.is(23, "all four", Due.town(Due.complete(4)).fours(), 3);
        Due.is(23, "all eleven", Due.town(Due.complete(11)).fours(), 990);
        Due.is(23, "a ring of five", Due.town("houses 5;ring 0 1 2 3 4;").fours(), 0);
        Due.is(23, "two by three", Due.town("houses 5;ring 0 2 1 3;door 0 4;door 1 4;").fours(), 3);
    }

    private static void scandal() {
        for (int n = 3; n <= 11; n++) {
            StringBuilder ring = new StringBuilder("houses " + n + ";ring");
            for (int h = 0; h < n; h++) {
                ring.append(' ').append(h);
            }
            Due.is(24, "a ring of " + n, Due.town(ring + ";").scandal(), n % 2 == 1 ? n : -1);
        }
        Due.is(24, "seven and five", Due.town("houses 11;ring 0 1 2 3 4 5 6;ring 6 7 8 9 10;").scandal(), 5);
        Due.is(24, "a door across seven", Due.town("houses 7;ring 0 1 2 3 4 5 6;door 0 3;").scandal(), 5);
        Due.is(24, "a three at the end", Due.town("houses 9;door 0 1;door 1 2;ring 6 7 8;").scandal(), 3);
        Due.is(24, "none", Due.town("houses 9;").scandal(), -1);
    }

    private static void halves() {
        Due.is(25, "a way", Due.town("houses 4;door 0 1;door 1 2;door 2 3;").halves(), 5);
        Due.is(25, "apart", Due.town("houses 6;door 5 1;door 2 4;").halves(), 15);
        Due.is(25, "a ring of six", Due.town("houses 6;ring 0 3 1 4 2 5;").halves(), 7);
        Due.is(25, "a ring of five", Due.town("houses 6;ring 1 2 3 4 5;").halves(), -1);
        Due.is(25, "one alone", Due.town("houses 1;").halves(), 1);
        Due.is(25, "eleven", Due.town("houses 11;").halves(), 2047);
    }

    private static void strangers() {
        Due.is(26, "five alone", Due.town("houses 5;").strangers(), 10);
        Due.is(26, "one door", Due.town("houses 5;door 0 4;").strangers(), 7);
        Due.is(26, "two", Due.town("houses 2;").strangers(), 0);
        Due.is(26, "a ring of six", Due.town("houses 6;ring 0 1 2 3 4 5;").strangers(), 2);
        Due.is(26, "eleven", Due.town("houses 11;").strangers(), 165);
    }

    private static void six() {
        Due.is(27, "five houses", Due.town("houses 5;").six(0), -1);
        Due.is(27, "five houses", Due.town("houses 5;").six(1), -1);
        Due.is(27, "what, ahead of five houses", Due.town("houses 5;").six(2), -2);
        Due.is(27, "what", Due.town("houses 6;").six(-1), -2);
        Due.is(27, "six alone", Due.town("houses 6;").six(0), 20);
        Due.is(27, "six alone", Due.town("houses 6;").six(1), 63);
        Due.is(27, "all six", Due.town(Due.complete(6)).six(0), 20);
        NoThree x = Due.town("houses 8;ring 1 2 3 4 5;");
        Due.is(27, "five in a ring and one", x.six(0), 5);
        Due.is(27, "the least as bits", x.six(1), 63);
        NoThree y = Due.town("houses 8;ring 2 5 3 6 4 7;");
        Due.is(27, "three by three", y.six(0), 2);
        Due.is(27, "three by three", y.six(1), 252);
    }
}
