import java.util.ArrayDeque;
import java.util.ArrayList;
import java.util.Arrays;
import java.util.Deque;
import java.util.HashSet;
import java.util.List;
import java.util.Set;
import java.util.regex.Matcher;
import java.util.regex.Pattern;

/** The text of a town, read in another way than the class does: states and a pile of what is open. */
final class TextModel {
    static final Set<String> WORDS = new HashSet<>(Arrays.asList(
            "doors", "threes", "fours", "far", "houses", "pairs", "feast", "colours", "halves"));
    private static final Pattern TOKEN = Pattern.compile("[ \\n]*([a-z]+|[0-9]+|[^ \\n])", Pattern.DOTALL);

    int kind = 0;
    int place = -1;
    int lines = 0;
    int houses = 0;
    final Set<Integer> doors = new HashSet<>();
    final List<List<String>> rules = new ArrayList<>();

    private final List<String> tokens = new ArrayList<>();
    private final List<Integer> places = new ArrayList<>();
    private int at = 0;

    /** Each sign of the text stands for a byte. */
    TextModel(String text) {
        Matcher m = TOKEN.matcher(text);
        int from = 0;
        while (from < text.length() && m.find(from) && m.group(1) != null) {
            tokens.add(m.group(1));
            places.add(m.start(1));
            from = m.end();
        }
        tokens.add("");
        places.add(text.length());
        try {
            while (!tokens.get(at).isEmpty()) {
                line();
                lines++;
            }
        } catch (IllegalStateException e) {
            kind = Integer.parseInt(e.getMessage());
            place = places.get(at);
        }
    }

    private void blame(int fault) {
        throw new IllegalStateException("" + (isBad(tokens.get(at)) ? 1 : fault));
    }

    private static boolean isBad(String token) {
        return !token.isEmpty() && !token.matches("[a-z]+|[0-9]{1,3}|[-;:+*()\\[\\]=<>]");
    }

    private void want(String token) {
        if (!tokens.get(at).equals(token)) {
            blame(2);
        }
        at++;
    }

    private int number() {
        if (!tokens.get(at).matches("[0-9]{1,3}")) {
            blame(2);
        }
        return Integer.parseInt(tokens.get(at));
    }

    private int house(Set<Integer> not) {
        int h = number();
        if (h >= houses || not.contains(h)) {
            blame(3);
        }
        at++;
        return h;
    }

    private void line() {
        String word = tokens.get(at);
        if (word.equals("houses")) {
            at++;
            int n = number();
            if (n < 1 || n > 11) {
                blame(3);
            }
            if (houses + n > 11) {
                blame(4);
            }
            houses += n;
            at++;
        } else if (word.equals("door")) {
            at++;
            int a = house(Set.of());
            Set<Integer> not = new HashSet<>(Set.of(a));
            for (int b = 0; b < houses; b++) {
                if (doors.contains(key(a, b))) {
                    not.add(b);
                }
            }
            doors.add(key(a, house(not)));
        } else if (word.equals("ring")) {
            at++;
            List<Integer> ring = new ArrayList<>();
            while (ring.size() < 3 || tokens.get(at).matches("[0-9]{1,3}")) {
                ring.add(house(new HashSet<>(ring)));
            }
            for (int i = 0; i < ring.size(); i++) {
                doors.add(key(ring.get(i), ring.get((i + 1) % ring.size())));
            }
        } else if (word.equals("rule")) {
            if (rules.size() == 6) {
                blame(4);
            }
            at++;
            want(":");
            rule();
        } else {
            blame(2);
        }
        want(";");
    }

    static int key(int a, int b) {
        return Math.min(a, b) * 100 + Math.max(a, b);
    }

    // state u: a unit begins; a: an atom must come; p: behind an atom; q: behind a unit that has ended.
    private void rule() {
        int first = at;
        Deque<String> open = new ArrayDeque<>();
        char state = 'u';
        boolean compared = false;
        while (true) {
            String t = tokens.get(at);
            boolean atom = t.matches("[0-9]{1,3}") || WORDS.contains(t);
            boolean inSum = "(".equals(open.peek());
            boolean unitCanEnd = state == 'q' || state == 'p' && compared && !inSum;
            if ((state == 'u' || state == 'a') && atom) {
                state = 'p';
            } else if ((state == 'u' || state == 'a') && t.equals("(") || state == 'u' && (t.equals("[") || t.equals("not"))) {
                if (open.size() == 6) {
                    blame(4);
                }
                open.push(t);
                state = t.equals("(") ? 'a' : 'u';
            } else if (state == 'p' && t.matches("[-+*]")) {
                state = 'a';
            } else if (state == 'p' && inSum && t.equals(")")) {
                open.pop();
            } else if (state == 'p' && !inSum && !compared && t.matches("[=<>]")) {
                compared = true;
                state = 'a';
            } else if (unitCanEnd && (t.equals("and") || t.equals("or") || t.equals("]") || t.equals(";"))) {
                while ("not".equals(open.peek())) {
                    open.pop();
                }
                compared = false;
                if (t.equals("]") != (t.equals("]") && "[".equals(open.peek())) || t.equals(";") && !open.isEmpty()) {
                    blame(2);
                }
                if (t.equals(";")) {
                    break;
                }
                if (t.equals("]")) {
                    open.pop();
                    state = 'q';
                } else {
                    state = 'u';
                }
            } else {
                blame(2);
            }
            at++;
        }
        rules.add(new ArrayList<>(tokens.subList(first, at)));
    }

    /** What a word is worth for the house that is asked. */
    interface Meaning {
        long of(String word);
    }

    static boolean holds(List<String> t, Meaning m) {
        int i = lastOf(t, "or");
        if (i >= 0) {
            boolean left = holds(t.subList(0, i), m);
            return holds(t.subList(i + 1, t.size()), m) || left;
        }
        i = lastOf(t, "and");
        if (i >= 0) {
            boolean left = holds(t.subList(0, i), m);
            return holds(t.subList(i + 1, t.size()), m) && left;
        }
        if (t.get(0).equals("not")) {
            return !holds(t.subList(1, t.size()), m);
        }
        if (t.get(0).equals("[")) {
            return holds(t.subList(1, t.size() - 1), m);
        }
        i = Math.max(lastOf(t, "="), Math.max(lastOf(t, "<"), lastOf(t, ">")));
        long a = sum(t.subList(0, i), m);
        long b = sum(t.subList(i + 1, t.size()), m);
        return t.get(i).equals("=") ? a == b : t.get(i).equals("<") ? a < b : a > b;
    }

    private static long sum(List<String> t, Meaning m) {
        int i = Math.max(lastOf(t, "+"), lastOf(t, "-"));
        if (i < 0) {
            i = lastOf(t, "*");
        }
        if (i >= 0) {
            long a = sum(t.subList(0, i), m);
            long b = sum(t.subList(i + 1, t.size()), m);
            long c = t.get(i).equals("+") ? a + b : t.get(i).equals("-") ? a - b : a * b;
            return Math.max(-1000000, Math.min(1000000, c));
        }
        if (t.get(0).equals("(")) {
            return sum(t.subList(1, t.size() - 1), m);
        }
        return Character.isDigit(t.get(0).charAt(0)) ? Long.parseLong(t.get(0)) : m.of(t.get(0));
    }

    /** The last place of a token that is in no brackets. */
    private static int lastOf(List<String> t, String token) {
        int depth = 0;
        for (int i = t.size() - 1; i >= 0; i--) {
            String here = t.get(i);
            if (depth == 0 && here.equals(token)) {
                return i;
            }
            if (here.equals(")") || here.equals("]")) {
                depth++;
            } else if (here.equals("(") || here.equals("[")) {
                depth--;
            }
        }
        return -1;
    }
}
