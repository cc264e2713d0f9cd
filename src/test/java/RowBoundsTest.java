/** What the document says of the bounds of rows of numbers, of images and of counts: promises 49 to 54. */
final class RowBoundsTest {
    private static final int[] NO_ROWS = {-1, 4, 5, -2, 32, Integer.MIN_VALUE, Integer.MAX_VALUE};

    public static void main(String[] args) {
        missingAtFirst();
        rowsAndSorts();
        noneToForty();
        theRowStays();
        all0InPlaceOfAnother();
        writeCodes();
        cutToItsSort();
        fromZeroOn();
        copyCodes();
        asManyAsItHasPlaces();
        copiedNumbersAreCut();
        imageBounds();
        noneAtFirst();
        allThatIsInIt();
        whatIsNotInIt();
        deedsInImages();
        countOfOthers();
        countsFromLeastToMost();
        Due.end();
    }

    /** "ROWS OF NUMBERS 0 to 3 are MISSING at first"; "-6 a ROW OF NUMBERS is MISSING". */
    private static void missingAtFirst() {
        for (int row = 0; row < 4; row++) {
            NoThree x = Due.town("houses 3;door 0 1;");
            for (int other = 0; other < 4; other++) {
                Due.is(50, "missing", x.write(other, 0, 1), -6);
                Due.is(51, "missing", x.copy(other), -6);
                Due.is(18, "missing", x.judge(other, 0), -6);
                Due.is(19, "missing", x.perform(other), -6);
            }
            Due.is(49, "row " + row, x.numbers(row, 0, 0), 0);
            for (int other = 0; other < 4; other++) {
                Due.is(50, "row " + other + " beside " + row, x.write(other, 0, 1), other == row ? -7 : -6);
                Due.is(51, "row " + other + " beside " + row, x.copy(other), other == row ? 0 : -6);
                Due.is(18, "row " + other + " beside " + row, x.judge(other, 0), other == row ? -1 : -6);
                Due.is(19, "row " + other + " beside " + row, x.perform(other), other == row ? 0 : -6);
            }
        }
    }

    /** "-2: no such ROW, sort." */
    private static void rowsAndSorts() {
        for (int row = -1; row <= 5; row++) {
            for (int sort = -1; sort <= 5; sort++) {
                boolean fits = row >= 0 && row <= 3 && sort >= 0 && sort <= 3;
                NoThree x = new NoThree();
                Due.is(49, "numbers(" + row + ", " + sort + ", 1)", x.numbers(row, sort, 1), fits ? 0 : -2);
                Due.is(49, "-2 ahead of -3", x.numbers(row, sort, 41), fits ? -3 : -2);
                Due.is(49, "-2 ahead of -3", x.numbers(row, sort, -1), fits ? -3 : -2);
                for (int other = 0; other < 4; other++) {
                    Due.is(50, "only that row", x.write(other, 0, 1), fits && other == row ? 1 : -6);
                }
            }
        }
        for (int none : NO_ROWS) {
            Due.is(49, "numbers(" + none + ", 0, 1)", new NoThree().numbers(none, 0, 1), -2);
            Due.is(49, "numbers(0, " + none + ", 1)", new NoThree().numbers(0, none, 1), -2);
        }
    }

    /** "0 to 40 numbers"; "-7 it has no such number". */
    private static void noneToForty() {
        for (int n = -2; n <= 43; n++) {
            NoThree x = new NoThree();
            boolean fits = n >= 0 && n <= 40;
            Due.is(49, "numbers(0, 3, " + n + ")", x.numbers(0, 3, n), fits ? 0 : -3);
            for (int i : new int[] {-1, 0, n - 1, n, n + 1, 39, 40}) {
                long due = !fits ? -6 : i >= 0 && i < n ? 5 : -7;
                Due.is(50, "number " + i + " of " + n, x.write(0, i, 5), due);
            }
        }
        for (int n : new int[] {Integer.MIN_VALUE, Integer.MAX_VALUE, 1 << 16, 256}) {
            Due.is(49, "numbers(0, 0, " + n + ")", new NoThree().numbers(0, 0, n), -3);
        }
        // Rows that are full, side by side: none's last number is another's first.
        NoThree y = Due.town("houses 11;");
        for (int row = 0; row < 4; row++) {
            y.numbers(row, 1, 40);
        }
        for (int row = 0; row < 4; row++) {
            Due.is(50, "the last of row " + row, y.write(row, 39, 1), 1);
            for (int other = 0; other < 4; other++) {
                Due.is(18, "the first of row " + other, y.judge(other, 0), 0);
            }
        }
        for (int row = 0; row < 4; row++) {
            Due.is(50, "the first of row " + row, y.write(row, 0, 1), 1);
            Due.is(18, "the second of row " + row, y.judge(row, 0), 1);
        }
    }

    /** "-3, and the ROW stays." */
    private static void theRowStays() {
        NoThree x = Due.town("houses 3;");
        x.numbers(2, 1, 2);
        x.write(2, 0, 1);
        x.write(2, 1, 102);
        for (int n : new int[] {-1, 41, Integer.MIN_VALUE, Integer.MAX_VALUE}) {
            for (int sort = 0; sort < 4; sort++) {
                Due.is(49, "numbers(2, " + sort + ", " + n + ")", x.numbers(2, sort, n), -3);
            }
            Due.is(49, "no such sort", x.numbers(2, 4, 1), -2);
            Due.is(18, "its numbers stay", x.judge(2, 2), 2);
            Due.is(50, "its sort stays", x.write(2, 1, 65536 + 102), 102);
            Due.is(50, "its size stays", x.write(2, 2, 0), -7);
        }
    }

    /** "All 0 (in place of another one)." */
    private static void all0InPlaceOfAnother() {
        NoThree x = Due.town("houses 3;");
        for (int size = 1; size <= 40; size++) {
            x.numbers(1, 3, 40);
            for (int i = 0; i < size; i++) {
                x.write(1, i, 1);
            }
            // Each of them is made a pair in its turn; the one behind it is 0 still.
            Due.is(49, "in place of another one", x.numbers(1, 1, 40), 0);
            for (int i = 0; i < 3; i++) {
                Due.is(49, "number " + i + " is 0", x.judge(1, 0), i);
                x.write(1, i, 1);
            }
            x = Due.town("houses 3;");
        }
        Due.is(49, "fewer", x.numbers(1, 1, 3), 0);
        Due.is(50, "fewer", x.write(1, 3, 1), -7);
        Due.is(49, "none", x.numbers(1, 1, 0), 0);
        Due.is(50, "none", x.write(1, 0, 1), -7);
        Due.is(49, "a row is 0 behind a smaller one", x.numbers(1, 1, 40), 0);
        Due.is(18, "a row is 0 behind a smaller one", x.judge(1, 1), 1);
    }

    /** "-2: no such ROW; -6; -7", in this order. */
    private static void writeCodes() {
        NoThree x = new NoThree();
        for (int none : NO_ROWS) {
            Due.is(50, "-2 ahead of -6 and -7", x.write(none, 0, 0), -2);
            Due.is(50, "-2 ahead of -6 and -7", x.write(none, -1, 0), -2);
            Due.is(50, "-2 ahead of -6 and -7", x.write(none, 40, 0), -2);
        }
        for (int i : new int[] {-1, 0, 1, 39, 40, Integer.MIN_VALUE, Integer.MAX_VALUE}) {
            Due.is(50, "-6 ahead of -7", x.write(0, i, 0), -6);
            x.numbers(1, 0, 0);
            Due.is(50, "-7 of an empty row", x.write(1, i, 0), -7);
            x.numbers(2, 0, 1);
            Due.is(50, "one number", x.write(2, i, 3), i == 0 ? 3 : -7);
        }
    }

    /** "Cut to its sort": numbers wrap around at 8, 16, 32 and 64 bits. */
    private static void cutToItsSort() {
        for (int sort = 0; sort < 4; sort++) {
            NoThree x = new NoThree();
            x.numbers(sort, sort, 1);
            int bits = 8 << sort;
            long most = bits == 64 ? Long.MAX_VALUE : (1L << bits - 1) - 1;
            long least = -most - 1;
            Due.is(50, "the most of " + bits, x.write(sort, 0, most), most);
            Due.is(50, "one more wraps around", x.write(sort, 0, most + 1), least);
            Due.is(50, "the least of " + bits, x.write(sort, 0, least), least);
            Due.is(50, "one less wraps around", x.write(sort, 0, least - 1), most);
            Due.is(50, "-1", x.write(sort, 0, -1), -1);
            Due.is(50, "all bits", x.write(sort, 0, bits == 64 ? -1 : (1L << bits) - 1), -1);
            Due.is(50, "all bits and one", x.write(sort, 0, bits == 64 ? 0 : 1L << bits), 0);
            Due.is(50, "once around and five", x.write(sort, 0, bits == 64 ? 5 : (1L << bits) + 5), 5);
            Due.is(50, "the most of all", x.write(sort, 0, Long.MAX_VALUE), bits == 64 ? Long.MAX_VALUE : -1);
            Due.is(50, "the least of all", x.write(sort, 0, Long.MIN_VALUE), bits == 64 ? Long.MIN_VALUE : 0);
        }
        // As it is there: what is cut is what acts are.
        NoThree y = Due.town("houses 3;");
        for (int sort = 0; sort < 4; sort++) {
            y.numbers(0, sort, 1);
            y.write(0, 0, (1L << 32) + 2);
            Due.is(18, "cut to sort " + sort, y.judge(0, 1), sort == 3 ? 1 : 0);
            y.write(0, 0, (1L << 16) + 2);
            Due.is(18, "cut to sort " + sort, y.judge(0, 1), sort > 1 ? 1 : 0);
            y.write(0, 0, 258);
            Due.is(18, "cut to sort " + sort, y.judge(0, 1), sort > 0 ? 1 : 0);
        }
    }

    private static void fromZeroOn() {
        NoThree x = Due.town("houses 11;");
        x.numbers(3, 1, 40);
        for (int i = 0; i < 40; i++) {
            Due.is(50, "number " + i, x.write(3, i, 1), 1);
            Due.is(18, "the next one is 0", x.judge(3, 0), i == 39 ? -1 : i + 1);
        }
    }

    /** "-2: the ROW; -6." */
    private static void copyCodes() {
        NoThree x = Due.town("houses 2;door 0 1;");
        for (int none : NO_ROWS) {
            Due.is(51, "copy(" + none + ")", x.copy(none), -2);
        }
        for (int row = 0; row < 4; row++) {
            Due.is(51, "missing", x.copy(row), -6);
            x.numbers(row, 1, 1);
            Due.is(51, "one door", x.copy(row), 1);
        }
        Due.is(51, "no houses", copied(new NoThree(), 40), 0);
        Due.is(51, "no doors", copied(Due.town("houses 11;"), 40), 0);
    }

    private static int copied(NoThree x, int places) {
        x.numbers(0, 3, places);
        return x.copy(0);
    }

    /** "From its first place on, as many as it has places: how many"; others stay. */
    private static void asManyAsItHasPlaces() {
        for (int n = 2; n <= 11; n++) {
            int doors = n * (n - 1) / 2;
            for (int places = 0; places <= 40; places += places < 8 || places > 34 ? 1 : 9) {
                NoThree x = Due.town(Due.complete(n));
                Due.is(51, "doors of " + n + ", places " + places, copied(x, places), Math.min(doors, places));
                // All that have been copied are walled in their turn; then comes a 0.
                Due.is(51, "the rest is 0", x.judge(0, 0), doors < places ? doors : -1);
                Due.is(51, "doors left", x.judge(0, 2), doors - Math.min(doors, places));
                x.perform(0);
                for (int a = 0; a < n; a++) {
                    int left = 0;
                    for (int b = 0; b < n; b++) {
                        int order = Math.min(a, b) * n + Math.max(a, b);
                        left |= a != b && order >= orderOf(n, Math.min(doors, places)) ? 1 << b : 0;
                    }
                    Due.is(51, "the first " + places + " of " + n + " are walled at " + a, x.house(a, 1), left);
                }
            }
        }
        NoThree y = Due.town("houses 4;door 2 3;door 1 0;");
        y.numbers(0, 2, 4);
        for (int i = 0; i < 4; i++) {
            y.write(0, i, 12);
        }
        Due.is(51, "two doors", y.copy(0), 2);
        Due.is(51, "the third place stays", y.judge(0, 0), 2);
        y.write(0, 2, 3);
        Due.is(51, "the fourth place stays", y.judge(0, 0), 3);
        y.write(0, 3, 102);
        Due.is(51, "all four", y.judge(0, 2), 2);
    }

    /** The place in order, as n times the lesser house and the other, of the door behind so many. */
    private static int orderOf(int n, int doors) {
        int left = doors;
        for (int a = 0; a < n; a++) {
            for (int b = a + 1; b < n; b++) {
                if (left == 0) {
                    return a * n + b;
                }
                left--;
            }
        }
        return n * n;
    }

    /** A row of 8 bits has room for the doors of houses 0 and 1; other doors are cut to what is no pair. */
    private static void copiedNumbersAreCut() {
        NoThree x = Due.town("houses 11;door 9 10;");
        for (int sort = 0; sort < 4; sort++) {
            x.numbers(sort, sort, 1);
            Due.is(51, "sort " + sort, x.copy(sort), 1);
            Due.is(51, "910 in sort " + sort, x.judge(sort, 1), sort == 0 ? 1 : 0);
        }
        NoThree y = Due.town("houses 4;door 0 3;door 1 2;");
        y.numbers(0, 0, 2);
        Due.is(51, "3 and 102", y.copy(0), 2);
        Due.is(51, "both are within 8 bits", y.judge(0, 0), -1);
    }

    /** "IMAGES 0 to 1. -2." */
    private static void imageBounds() {
        for (int i : new int[] {-1, 2, 3, -2, 32, Integer.MIN_VALUE, Integer.MAX_VALUE}) {
            NoThree x = Due.town("houses 2;");
            Due.is(52, "image(" + i + ")", x.image(i), -2);
            Due.is(53, "restore(" + i + ")", x.restore(i), -2);
            Due.is(41, "alike(" + i + ")", x.alike(i), -2);
            Due.is(53, "none was made by it", x.restore(0), -5);
            Due.is(53, "none was made by it", x.restore(1), -5);
        }
    }

    /** "(none at first)"; "-5: none was made." */
    private static void noneAtFirst() {
        for (int i = 0; i < 2; i++) {
            NoThree x = Due.town("houses 2;");
            Due.is(53, "none was made", x.restore(i), -5);
            Due.is(53, "all stays", x.count(0), 2);
            Due.is(52, "the other one", x.image(1 - i), 0);
            Due.is(53, "none was made", x.restore(i), -5);
            Due.is(53, "the other one", x.restore(1 - i), 0);
            Due.is(52, "made", x.image(i), 0);
            Due.is(53, "made", x.restore(i), 0);
        }
        NoThree y = new NoThree();
        Due.is(52, "of no houses", y.image(0), 0);
        Due.tell(y, "houses 11;rule:1=1;");
        y.leave(0);
        Due.is(53, "of no houses", y.restore(0), 0);
        for (int what = 0; what < 8; what++) {
            Due.is(53, "of no houses, count(" + what + ")", y.count(what), 0);
        }
        Due.is(53, "again and again", y.restore(0), 0);
    }

    /** "All that is in an IMAGE is as it was": THE TOWN, RULES, DEEDS. */
    private static void allThatIsInIt() {
        String rules = "rule:doors<3;rule:1=1;rule:1=2;rule:far<9;rule:2=2;rule:pairs=12 or pairs=11;";
        NoThree x = Due.town("houses 11;ring 0 1 2 3 4 5 6 7 8 9 10;" + rules);
        x.wall(10, 0);
        x.image(0);
        x.image(1);
        for (int round = 0; round < 4; round++) {
            Due.tell(x, round % 2 == 0 ? "houses 2;rule:doors=0;" : "");
            x.weave();
            Due.is(53, "restore", x.restore(round / 2), 0);
            int[] due = {11, 10, 6, 1, 0, 1, 0, 8};
            for (int what = 0; what < 8; what++) {
                Due.is(53, "count(" + what + ")", x.count(what), due[what]);
            }
            int[] rulesHold = {1, 1, 0, 0, 1, 0};
            for (int rule = 0; rule < 6; rule++) {
                Due.is(53, "rule " + rule, x.holds(rule, 0), rulesHold[rule]);
            }
            for (int h = 0; h < 11; h++) {
                int near = (h > 0 ? 1 << h - 1 : 0) | (h < 10 ? 1 << h + 1 : 0);
                Due.is(53, "house " + h, x.house(h, 1), near);
            }
            Due.is(53, "the rules hinder", x.why(0, 5), 4);
            Due.is(53, "the deed", x.undo(1), 0);
            Due.is(53, "the deed", x.count(1), 11);
            Due.is(53, "no more deeds", x.undo(1), -3);
        }
    }

    /** The tape, the latest fault, rows and the other image are in no image. */
    private static void whatIsNotInIt() {
        NoThree x = Due.town("houses 3;");
        x.numbers(0, 0, 1);
        x.image(0);
        Due.tell(x, "houses 2;,");
        x.numbers(0, 1, 2);
        x.write(0, 0, 300);
        x.numbers(1, 0, 0);
        x.join(0, 1);
        x.image(1);
        Due.feed(x, "houses 5;");
        Due.is(53, "restore(0)", x.restore(0), 0);
        Due.is(53, "the tape stays", x.count(6), 20);
        Due.is(53, "the fault stays", x.fault(0), 1);
        Due.is(53, "its place stays", x.fault(1), 9);
        Due.is(53, "a row stays", x.write(0, 1, 300), 300);
        Due.is(53, "a row that was missing stays", x.write(1, 0, 0), -7);
        Due.is(53, "the other image stays", x.restore(1), 0);
        Due.is(53, "the other image stays", x.count(1), 1);
        Due.is(53, "the tape is read", x.town(9), 1);
        Due.is(53, "an image stays", x.restore(0), 0);
        Due.is(53, "an image stays", x.count(0), 3);
    }

    /** Twelve deeds at most are in an image, too, and those forgotten ahead of it stay so. */
    private static void deedsInImages() {
        for (int deeds = 0; deeds <= 14; deeds++) {
            NoThree x = Due.town("houses 11;");
            for (int i = 0; i < deeds; i++) {
                x.join(i < 10 ? 0 : 20 - i, i < 10 ? i + 1 : i - 10 + 1);
            }
            int made = x.count(3);
            int doors = x.count(1);
            x.image(1);
            for (int i = 0; i < 13; i++) {
                x.leave(0);
                x.enter(0);
            }
            x.restore(1);
            Due.is(53, "deeds", x.count(3), made);
            Due.is(53, "more than can be", x.undo(made + 1), -3);
            for (int i = 1; i <= made; i++) {
                Due.is(53, "undone", x.undo(1), made - i);
                Due.is(53, "doors", x.count(1), doors - i);
            }
            Due.is(53, "no more", x.undo(1), -3);
            // Undone ones are in the image still.
            x.restore(1);
            Due.is(53, "deeds again", x.count(3), made);
        }
    }

    /** "NONE for others." */
    private static void countOfOthers() {
        NoThree x = Due.town("houses 3;ring 0 1 2;");
        for (int what : new int[] {-1, 8, 9, -2, 32, Integer.MIN_VALUE, Integer.MAX_VALUE}) {
            Due.is(54, "count(" + what + ")", x.count(what), -1);
            Due.is(54, "count(" + what + ") of none", new NoThree().count(what), -1);
        }
    }

    private static void counted(String text, int... due) {
        NoThree x = Due.town(text);
        for (int what = 0; what < 8; what++) {
            Due.is(54, "count(" + what + "): " + text, x.count(what), due[what]);
        }
    }

    private static void countsFromLeastToMost() {
        counted("", 0, 0, 0, 0, 0, 0, 0, 0);
        counted("houses 1;", 1, 0, 0, 0, 0, 1, 0, 1);
        counted("houses 11;", 11, 0, 0, 0, 0, 11, 0, 1);
        counted(Due.complete(11), 11, 55, 0, 0, 165, 1, 0, 56);
        counted(Due.repeated("rule:1=1;", 6), 0, 0, 6, 0, 0, 0, 0, 6);
        counted("houses 11;door 0 10;door 1 9;door 2 8;door 3 7;door 4 6;", 11, 5, 0, 0, 0, 6, 0, 6);
        counted(Due.repeated("houses 1;", 11) + Due.repeated("ring 0 1 2;", 50), 11, 3, 0, 0, 1, 9, 0, 61);
        NoThree x = new NoThree();
        for (int i = 1; i <= 45; i++) {
            x.feed(0, 0, 0, 0, 0);
            Due.is(54, "bytes on the tape", x.count(6), 20 * i);
        }
        x.feed(0, 0, 0, 0, 0);
        Due.is(54, "bytes on a full tape", x.count(6), 900);
        x.town(0);
        Due.is(54, "bytes on an empty tape", x.count(6), 0);
    }
}
