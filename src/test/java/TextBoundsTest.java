/** What the document says of a text's bounds and faults: promises 1 to 4, each sentence by a test of its own. */
final class TextBoundsTest {
    private static final String SIX_RULES = Due.repeated("rule:1=1;", 6);
    private static final String[] WORDS = {
        "doors", "threes", "fours", "far", "houses", "pairs", "feast", "colours", "halves"};

    public static void main(String[] args) {
        atMost900Bytes();
        withoutText();
        aRowOf20Bytes();
        readWhole();
        faultOfLatest();
        housesOneToEleven();
        elevenInAll();
        doorsBetween();
        rings();
        sixRules();
        sixWithin();
        everyByte();
        blanks();
        words();
        digits();
        signs();
        firstAlongText();
        leastKind();
        theEnd();
        allStays();
        Due.end();
    }

    private static void good(int promise, String sentence, String text, int lines) {
        NoThree x = new NoThree();
        Due.is(promise, sentence + ": " + text, Due.tell(x, text), lines);
        Due.is(4, sentence + ", fault(0): " + text, x.fault(0), 0);
        Due.is(4, sentence + ", fault(1): " + text, x.fault(1), -1);
    }

    /** "A TEXT of at most 900 bytes"; "-5: it would have more than 900". */
    private static void atMost900Bytes() {
        String ends = "rule:1=1;";
        String text = "houses 11;" + Due.repeated(" ", 900 - 10 - ends.length()) + ends;
        NoThree x = new NoThree();
        Due.feed(x, text);
        Due.is(2, "900 bytes", x.count(6), 900);
        Due.is(2, "more than 900", x.feed(0, 0, 0, 0, 0), -5);
        Due.is(2, "more than 900, again", x.feed(-1, -1, -1, -1, -1), -5);
        Due.is(2, "the tape stays", x.count(6), 900);
        Due.is(3, "the last byte is read", x.town(900), 2);
        Due.is(3, "the last byte's rule", x.count(2), 1);
        NoThree y = new NoThree();
        Due.feed(y, text);
        Due.is(3, "all but the last byte", y.town(899), -32);
        Due.is(4, "all but the last byte", y.fault(1), 899);
        NoThree z = new NoThree();
        Due.feed(z, text.substring(0, 880));
        Due.is(2, "880 bytes", z.count(6), 880);
        Due.is(2, "900 bytes", z.feed(0, 0, 0, 0, 0), 900);
        good(3, "900 bytes, a number each second one", "rule:1" + Due.repeated("+1", 445) + "=10;", 1);
        Due.faultOf(Due.repeated(";", 900), 2, 0);
        Due.faultOf("rule:" + Due.repeated("(", 6) + Due.repeated("1+", 444) + "1", 2, 900);
        good(3, "900 blanks", Due.repeated("\n", 900), 0);
        Due.faultOf("houses 1;" + Due.repeated(" ", 890) + ",", 1, 899);
    }

    /** "Without one: no HOUSES, no RULES"; "No HOUSES". */
    private static void withoutText() {
        NoThree x = new NoThree();
        Due.is(1, "no houses", x.count(0), 0);
        Due.is(1, "no rules", x.count(2), 0);
        Due.tell(x, "houses 3;door 0 1;rule: 1 = 2;");
        Due.is(3, "none of the bytes", x.town(0), 0);
        for (int what = 0; what < 8; what++) {
            Due.is(3, "an empty text, count(" + what + ")", x.count(what), 0);
        }
        Due.is(4, "an empty text", x.fault(0), 0);
        Due.feed(x, "houses 3;");
        Due.is(3, "none of 20 bytes", x.town(0), 0);
        Due.is(3, "all 20 are gone", x.count(6), 0);
        Due.is(3, "all 20 are gone", x.town(1), -3);
    }

    /** "Twenty bytes come behind those on THE TAPE, the highest of each int first." */
    private static void aRowOf20Bytes() {
        NoThree x = new NoThree();
        Due.is(2, "the first 20", x.feed(0x686F7573, 0x65732033, 0x3B646F6F, 0x72203020, 0x313B7275), 20);
        Due.is(2, "behind those", x.feed(0x6C653A70, 0x61697273, 0x3D313B20, 0x20202020, 0x2020200A), 40);
        Due.is(3, "both", x.town(40), 3);
        Due.is(7, "both", x.holds(0, 1), 1);
        // A byte of 128 and more makes the int negative, and is no token wherever it stands.
        for (int place = 0; place < 20; place++) {
            int[] v = {0x20202020, 0x20202020, 0x20202020, 0x20202020, 0x20202020};
            v[place / 4] ^= 0xA0 << 24 - place % 4 * 8;
            Due.is(2, "a byte of 128", x.feed(v[0], v[1], v[2], v[3], v[4]), 20);
            Due.is(3, "a byte of 128", x.town(20), -31);
            Due.is(4, "a byte of 128", x.fault(1), place);
        }
    }

    /** "The first n bytes of THE TAPE (which is empty then)"; "-3: n is below 0 or above what there is (THE TAPE stays)". */
    private static void readWhole() {
        NoThree x = new NoThree();
        for (int n : new int[] {-1, 1, 20, 900, 901, Integer.MIN_VALUE, Integer.MAX_VALUE}) {
            Due.is(3, "town(" + n + ") of an empty tape", x.town(n), -3);
        }
        Due.feed(x, "houses 2;houses 3;");
        for (int n : new int[] {-1, 21, 40, 900, 901, Integer.MIN_VALUE, Integer.MAX_VALUE}) {
            Due.is(3, "town(" + n + ") of 20 bytes", x.town(n), -3);
            Due.is(3, "the tape stays", x.count(6), 20);
        }
        Due.is(3, "all there is", x.town(20), 2);
        Due.is(3, "empty then", x.count(6), 0);
        Due.feed(x, "houses 4;houses 3;");
        Due.is(3, "the first nine", x.town(9), 1);
        Due.is(3, "four houses", x.count(0), 4);
        Due.is(3, "empty then", x.count(6), 0);
        Due.feed(x, "houses 4;houses 3;");
        Due.is(3, "the first eight", x.town(8), -32);
        Due.is(3, "empty then", x.count(6), 0);
    }

    /** "Of the latest town() that was read, what 0: its FAULT (0), 1: its place (NONE). NONE for others." */
    private static void faultOfLatest() {
        NoThree x = new NoThree();
        fault(x, "none was read", 0, -1);
        Due.tell(x, "houses 3;houses 9;");
        fault(x, "a fault", 4, 16);
        x.town(1);
        fault(x, "a refused one isn't read", 4, 16);
        x.town(-1);
        fault(x, "a refused one isn't read", 4, 16);
        Due.feed(x, "houses 3;");
        fault(x, "what is on the tape isn't read", 4, 16);
        x.town(20);
        fault(x, "no fault", 0, -1);
        Due.tell(x, ",");
        fault(x, "a fault at the first byte", 1, 0);
        x.image(0);
        x.restore(0);
        fault(x, "an image has none", 1, 0);
        x.town(0);
        fault(x, "an empty text", 0, -1);
    }

    private static void fault(NoThree x, String sentence, int kind, int place) {
        Due.is(4, "fault(0), " + sentence, x.fault(0), kind);
        Due.is(4, "fault(1), " + sentence, x.fault(1), place);
        for (int what : new int[] {-1, 2, 3, -2, Integer.MIN_VALUE, Integer.MAX_VALUE}) {
            Due.is(4, "NONE for others, fault(" + what + ")", x.fault(what), -1);
        }
    }

    /** "So many HOUSES more, 1 to 11"; "an N out of its bounds". */
    private static void housesOneToEleven() {
        for (int n = 0; n < 1000; n++) {
            NoThree x = new NoThree();
            boolean fits = n >= 1 && n <= 11;
            Due.is(3, "houses " + n, Due.tell(x, "houses " + n + ";"), fits ? 1 : -33);
            Due.is(3, "houses " + n, x.count(0), fits ? n : 0);
            Due.is(4, "houses " + n, x.fault(1), fits ? -1 : 7);
        }
    }

    /** "11 at most in all"; "an N by which there are more than 11 HOUSES". */
    private static void elevenInAll() {
        for (int a = 1; a <= 11; a++) {
            for (int b = 1; b <= 11; b++) {
                String text = "houses " + a + ";houses " + b + ";";
                if (a + b <= 11) {
                    good(3, "11 at most in all", text, 2);
                    Due.is(3, text, Due.town(text).count(0), a + b);
                } else {
                    Due.faultOf(text, 4, a < 10 ? 16 : 17);
                }
            }
        }
        good(3, "eleven times one", Due.repeated("houses 1;", 11), 11);
        Due.faultOf(Due.repeated("houses 1;", 12), 4, 11 * 9 + 7);
        Due.faultOf("houses 11;rule: 1 = 1;houses 1;", 4, 29);
    }

    /** "Between two unlike HOUSES told ahead, with no DOOR between both"; which N is blamed. */
    private static void doorsBetween() {
        for (int a = 0; a < 13; a++) {
            for (int b = 0; b < 13; b++) {
                String text = "houses 11;door " + a + " " + b + ";";
                int second = a < 10 ? 17 : 18;
                if (a > 10) {
                    Due.faultOf(text, 3, 15);
                } else if (b > 10 || a == b) {
                    Due.faultOf(text, 3, second);
                } else {
                    good(3, "a door", text, 2);
                    Due.faultOf(text + "door " + a + " " + b + ";", 3, text.length() + 6 + ("" + a).length());
                    Due.faultOf(text + "door " + b + " " + a + ";", 3, text.length() + 6 + ("" + b).length());
                }
            }
        }
        Due.faultOf("door 0 1;houses 2;", 3, 5);
        Due.faultOf("houses 1;door 0 1;houses 1;", 3, 16);
        Due.faultOf("houses 1;door 1 0;houses 1;", 3, 14);
        Due.faultOf("houses 3;ring 0 1 2;door 0 1;", 3, 27);
    }

    /** "3 to 11 unlike HOUSES told ahead: DOORS between each and the next one, the last and the first, where there is none." */
    private static void rings() {
        StringBuilder ring = new StringBuilder("houses 11;ring");
        for (int n = 1; n <= 11; n++) {
            ring.append(' ').append(n - 1);
            if (n < 3) {
                Due.faultOf(ring + ";", 2, ring.length());
                Due.faultOf(ring + " ;", 2, ring.length() + 1);
                Due.faultOf(ring + "", 2, ring.length());
            } else {
                good(3, "a ring of " + n, ring + ";", 2);
                Due.is(3, "doors of a ring of " + n, Due.town(ring + ";").count(1), n);
                Due.is(3, "the last and the first", Due.town(ring + ";").steps(n - 1, 0), 1);
            }
            for (int h = 0; h < n; h++) {
                Due.faultOf(ring + " " + h + ";", 3, ring.length() + 1);
            }
            Due.faultOf(ring + " 11;", 3, ring.length() + 1);
        }
        Due.faultOf("ring 0 1 2;houses 3;", 3, 5);
        Due.faultOf("houses 2;ring 0 1 2;houses 1;", 3, 18);
        Due.faultOf("houses 3;ring;", 2, 13);
        NoThree x = Due.town("houses 4;door 2 1;ring 0 1 2 3;ring 3 2 1 0;");
        Due.is(3, "where there is none", x.count(1), 4);
    }

    /** "6 at most, numbered from 0 on"; "the first TOKEN of a 7th rule". */
    private static void sixRules() {
        for (int n = 0; n <= 6; n++) {
            NoThree x = Due.town("houses 1;" + Due.repeated("rule:1=1;", n));
            Due.is(54, n + " rules", x.count(2), n);
            Due.is(7, "the last of " + n + " rules", x.holds(n - 1, 0), n == 0 ? -2 : 1);
            Due.is(7, "one more than " + n + " rules", x.holds(n, 0), -2);
        }
        Due.faultOf(SIX_RULES + "rule:1=1;", 4, 54);
        Due.faultOf(SIX_RULES + "rule", 4, 54);
        Due.faultOf(SIX_RULES + "\n rule,", 4, 56);
        Due.faultOf(SIX_RULES + "houses 1;rule;", 4, 63);
        Due.faultOf(SIX_RULES + "rules", 2, 54);
        good(3, "other lines behind six rules", SIX_RULES + "houses 2;door 0 1;", 8);
    }

    /** "At most six of not [ ( within one another"; "a seventh of not [ (". */
    private static void sixWithin() {
        String[][] pairs = {{"not ", ""}, {"[", "]"}};
        for (int bits = 0; bits < 128; bits++) {
            StringBuilder open = new StringBuilder("rule:");
            StringBuilder close = new StringBuilder();
            int seventh = 0;
            for (int i = 0; i < 7; i++) {
                seventh = open.length();
                open.append(pairs[bits >> i & 1][0]);
                close.insert(0, pairs[bits >> i & 1][1]);
                String text = open + "1=1" + close + ";";
                if (i < 6) {
                    good(3, "at most six", text, 1);
                } else {
                    Due.faultOf(text, 4, seventh);
                }
                String bracket = open + "1=(1)" + close + ";";
                if (i < 5) {
                    good(3, "at most six", bracket, 1);
                } else if (i == 5) {
                    Due.faultOf(bracket, 4, open.length() + 2);
                }
            }
        }
        for (int n = 1; n <= 7; n++) {
            String text = "rule:" + Due.repeated("(", n) + "1" + Due.repeated(")", n) + "=1;";
            String other = "rule:1=1+" + Due.repeated("(2*", n) + "1" + Due.repeated(")", n) + ";";
            if (n < 7) {
                good(3, "at most six", text, 1);
                good(3, "at most six", other, 1);
            } else {
                Due.faultOf(text, 4, 11);
                Due.faultOf(other, 4, 9 + 6 * 3);
            }
        }
        // What has ended is not within.
        good(3, "one behind another", "rule:" + Due.repeated("not[not(1)=(1)*(2)]and not not not not not not 1=1 or ", 9)
                + "[[[[[[1=1]]]]]];", 1);
    }

    /** "1 no TOKEN begins so": of all bytes; blanks are 10 and 32 alone, words have small letters alone. */
    private static void everyByte() {
        for (int b = 0; b < 256; b++) {
            String sign = "" + (char) b;
            if (b == 10 || b == 32) {
                good(3, "a blank " + b, sign, 0);
                good(3, "a blank " + b, "houses" + sign + "3" + sign + ";" + sign, 1);
                continue;
            }
            boolean begins = b >= 'a' && b <= 'z' || b >= '0' && b <= '9' || b > 0 && ";:+-*()[]=<>".indexOf(b) >= 0;
            Due.faultOf(sign, begins ? 2 : 1, 0);
            Due.faultOf("houses 3;\n" + sign, begins ? 2 : 1, 10);
            if (b >= 'a' && b <= 'z') {
                Due.faultOf("houses" + sign + " 3;", 2, 0);
            } else if (b >= '0' && b <= '9') {
                Due.is(3, "a digit goes on", Due.tell(new NoThree(), "rule:1" + sign + "=1" + sign + ";"), 1);
            } else {
                Due.faultOf("door" + sign + "0;", begins ? 2 : 1, 4);
                if (b != ';') {
                    Due.faultOf("houses 3" + sign, begins ? 2 : 1, 8);
                }
            }
        }
    }

    /** "Between them blanks (10, 32)." */
    private static void blanks() {
        good(3, "blanks between all", " \nhouses\n\n 3 ;\ndoor\n0  1\n;\n rule : not [ ( 1 ) = 1 ] ;\n ", 3);
        good(3, "blanks where they must be", "houses 3;door 0 1;rule:not 1=1and 1=1or 1=1;", 3);
        Due.faultOf("houses\r\n3;", 1, 6);
        Due.faultOf("houses\t3;", 1, 6);
        Due.faultOf("houses" + (char) 160 + "3;", 1, 6);
        Due.faultOf("houses 3;door 01;", 2, 16);
        Due.faultOf("hou ses 3;", 2, 0);
        Due.faultOf("rule:not1=1notx", 2, 11);
        Due.faultOf("rule:1=1andnot 1=1;", 2, 8);
    }

    /** Words that are told, each with a letter less and one more, and where they can't stand. */
    private static void words() {
        for (String word : WORDS) {
            good(3, "a word", "rule:" + word + "=0;", 1);
            good(3, "a word", "rule:0=" + word + ";", 1);
            Due.faultOf("rule:" + word + "s=0;", 2, 5);
            Due.faultOf("rule:" + word.substring(1) + "=0;", 2, 5);
            Due.faultOf("rule:" + word.substring(0, word.length() - 1) + "=0;", 2, 5);
            if (!word.equals("houses")) {
                Due.faultOf(word + " 1;", 2, 0);
            }
        }
        for (String word : new String[] {"house", "door", "ring", "rule", "no", "an", "o", "town", "and", "or"}) {
            Due.faultOf("rule:" + word + "=0;", 2, 5);
        }
        for (String word : new String[] {"not", "and", "or", "far", "feast", "house", "doo", "rin", "rul", "rings", "x"}) {
            Due.faultOf(word + " 1;", 2, 0);
        }
    }

    /** "N (1 to 3 digits)"; "4 digits and more: at their first". */
    private static void digits() {
        good(3, "one digit", "houses 7;", 1);
        good(3, "two digits", "houses 07;", 1);
        good(3, "three digits", "houses 007;", 1);
        good(3, "three digits", "houses 7;door 000 006;ring 001 02 003;", 3);
        good(3, "999", "rule:999=999;", 1);
        Due.faultOf("houses 0007;", 1, 7);
        Due.faultOf("houses 7;door 0000 1;", 1, 14);
        Due.faultOf("houses 7;door 0 0001;", 1, 16);
        Due.faultOf("rule:999=1000;", 1, 9);
        Due.faultOf("rule:0000=0;", 1, 5);
        Due.faultOf("rule:" + Due.repeated("9", 800) + "=0;", 1, 5);
        Due.is(7, "999 is told", Due.town("houses 1;rule:999=998+1;").holds(0, 0), 1);
        Due.is(7, "099 is 99", Due.town("houses 1;rule:099=98+1;").holds(0, 0), 1);
    }

    private static void signs() {
        good(3, "all signs", "rule:1+2-3*(4)<5and[6=7]or 8>9;", 1);
        Due.faultOf("rule;1=1;", 2, 4);
        Due.faultOf("rule:1=1:", 2, 8);
        Due.faultOf("rule:1<=1;", 2, 7);
        Due.faultOf("rule:1==1;", 2, 7);
        Due.faultOf("rule:1--1=1;", 2, 7);
        Due.faultOf("rule:-1=1;", 2, 5);
        Due.faultOf("rule:()=1;", 2, 6);
        Due.faultOf("rule:[]=1;", 2, 6);
        Due.faultOf("rule:[1=1);", 2, 9);
        Due.faultOf("rule:(1]=1;", 2, 7);
    }

    /** "FAULTS, the first along the text." */
    private static void firstAlongText() {
        Due.faultOf("houses 12;,", 3, 7);
        Due.faultOf("houses 3;x,", 2, 9);
        Due.faultOf("houses 11;houses 1;houses 12;", 4, 17);
        Due.faultOf("houses 3;door 1 1,", 3, 16);
        Due.faultOf("houses 3;door 3 9999", 3, 14);
        Due.faultOf("houses 3,houses 12;", 1, 8);
        Due.faultOf("houses 3;ring 0 0 ;", 3, 16);
        Due.faultOf("rule:((((((([,", 4, 11);
    }

    /** "Of one TOKEN the least kind": 1 ahead of 2, 2 ahead of 3 and of 4, 3 ahead of 4. */
    private static void leastKind() {
        Due.faultOf("houses A;", 1, 7);
        Due.faultOf("houses 11;houses 9999;", 1, 17);
        Due.faultOf("houses 3 12;", 2, 9);
        Due.faultOf("houses 3;door 0 1 9;", 2, 18);
        Due.faultOf("rule 99;", 2, 5);
        Due.faultOf("houses 11;houses houses 1;", 2, 17);
        Due.faultOf("rule:(((((([1=1", 2, 11);
        Due.faultOf("rule:((((((not 1=1", 2, 11);
        Due.faultOf("rule:((((((1(", 2, 12);
        Due.faultOf("rule:[[[[[[1=1[", 2, 14);
        Due.faultOf("rule:not not not not not not 1=not", 2, 31);
        Due.faultOf("houses 11;houses 0;", 3, 17);
        Due.faultOf("houses 11;houses 12;", 3, 17);
    }

    /** "2 it can't stand there (the end: the text's length)." */
    private static void theEnd() {
        String[] tokens = ("houses 4 ; door 0 1 ; ring 0 2 3 ; rule : not [ ( 1 ) * 2 = 1 + 3 ] and doors > 1 or 2 < far - 1 ;")
                .split(" ");
        StringBuilder text = new StringBuilder();
        int lines = 0;
        for (String token : tokens) {
            text.append(token);
            if (token.equals(";")) {
                lines++;
                good(3, "the end of a line", text.toString(), lines);
                good(3, "blanks behind a line", text + " \n ", lines);
            } else {
                Due.faultOf(text.toString(), 2, text.length());
                Due.faultOf(text + " \n ", 2, text.length() + 3);
            }
            text.append(' ');
        }
        Due.faultOf("houses 3  \n", 2, 11);
        Due.faultOf("rule", 2, 4);
        Due.faultOf("rule:", 2, 5);
        Due.faultOf("rule:1=1 ", 2, 9);
    }

    /** "How many LINES (all stays with a FAULT)"; "no DEEDS". */
    private static void allStays() {
        NoThree x = Due.town("houses 4;door 0 1;rule: doors < 3;");
        x.join(1, 2);
        x.image(1);
        x.join(2, 3);
        for (String text : new String[] {",", "houses 2", "houses 5;door 5 0;", "houses 11;houses 1;", "houses 3;rule:1=1;,"}) {
            Due.is(3, "a fault: " + text, Due.tell(x, text) < -30);
            int[] due = {4, 3, 1, 2, 0, 1, 0, 3};
            for (int what = 0; what < 8; what++) {
                Due.is(3, "all stays, count(" + what + ")", x.count(what), due[what]);
            }
            Due.is(3, "the rule stays", x.holds(0, 1), 1);
            Due.is(3, "doors stay", x.house(2, 1), 10);
        }
        Due.is(3, "no deeds", Due.tell(x, "houses 5;"), 1);
        Due.is(17, "no deeds", x.undo(1), -3);
        Due.is(53, "images stay", x.restore(1), 0);
        Due.is(53, "images stay", x.count(1), 2);
        Due.is(53, "images stay", x.undo(1), 0);
    }
}
