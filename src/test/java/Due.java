import java.util.ArrayList;
import java.util.List;

/** What the tests share: answers that are due, and towns told as texts. */
final class Due {
    private static int asked = 0;
    private static int wrong = 0;

    private Due() {
    }

    static void is(int promise, String call, long got, long want) {
        asked++;
        if (got != want) {
            wrong++;
            if (wrong <= 40) {
                System.out.println("promise " + promise + ": " + call + " answered " + got + ", due is " + want);
            }
        }
    }

    static void is(int promise, String call, boolean good) {
        is(promise, call, good ? 1 : 0, 1);
    }

    /** Ends the program, with exit code 1 if an answer was wrong or none was asked for. */
    static void end() {
        System.out.println(asked + " answers, " + wrong + " not as due");
        System.exit(wrong == 0 && asked > 0 ? 0 : 1);
    }

    /** Puts a text on the tape, filled up with blanks. */
    static void feed(NoThree x, String text) {
        for (int at = 0; at < text.length(); at += 20) {
            int[] ints = new int[5];
            for (int i = 0; i < 20; i++) {
                int sign = at + i < text.length() ? text.charAt(at + i) : ' ';
                ints[i / 4] = ints[i / 4] << 8 | sign & 255;
            }
            x.feed(ints[0], ints[1], ints[2], ints[3], ints[4]);
        }
    }

    static int tell(NoThree x, String text) {
        feed(x, text);
        return x.town(text.length());
    }

    static NoThree town(String text) {
        NoThree x = new NoThree();
        if (tell(x, text) < 0) {
            throw new IllegalArgumentException(text);
        }
        return x;
    }

    static void faultOf(String text, int kind, int place) {
        NoThree x = new NoThree();
        is(3, "town: " + text, tell(x, text), -30 - kind);
        is(4, "fault(0): " + text, x.fault(0), kind);
        is(4, "fault(1): " + text, x.fault(1), place);
    }

    static String repeated(String text, int times) {
        StringBuilder all = new StringBuilder();
        for (int i = 0; i < times; i++) {
            all.append(text);
        }
        return all.toString();
    }

    static String complete(int houses) {
        StringBuilder text = new StringBuilder("houses " + houses + ";");
        for (int a = 0; a < houses; a++) {
            for (int b = a + 1; b < houses; b++) {
                text.append("door ").append(a).append(' ').append(b).append(';');
            }
        }
        return text.toString();
    }

    static List<int[]> pairs(int houses) {
        List<int[]> all = new ArrayList<>();
        for (int a = 0; a < houses; a++) {
            for (int b = a + 1; b < houses; b++) {
                all.add(new int[] {a, b});
            }
        }
        return all;
    }
}
