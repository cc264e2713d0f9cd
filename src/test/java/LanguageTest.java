import java.lang.reflect.Constructor;
import java.lang.reflect.Field;
import java.lang.reflect.Method;
import java.lang.reflect.Modifier;
import java.nio.file.Files;
import java.nio.file.Paths;
import java.util.Arrays;
import java.util.List;
import java.util.Set;
import java.util.TreeSet;
import java.util.regex.Matcher;
import java.util.regex.Pattern;

/** The rules of ../shared/LANGUAGE.md, as far as a program can see them; promise 0 stands for them here. */
final class LanguageTest {
    private static final String FACE = "alike(int) atRest(int) breaches() broken(int) century(int,int) changing(int,int)"
            + " colour(int) colours() copy(int) count(int) cure(int) dear() dearness() enter(int) fault(int) feast(int)"
            + " feasts() feed(int,int,int,int,int) fours() full() grow(int) halves() holds(int,int) house(int,int)"
            + " image(int) join(int,int) judge(int,int) leave(int) mark() may(int) mostDoors(int,boolean)"
            + " numbers(int,int,int) pay(int,int) perform(int) restore(int) safe(int,int) scandal() selves() six(int)"
            + " steps(int,int) strangers() teller() telling(int) three(int) town(int) undo(int) unlike(int,boolean)"
            + " wall(int,int) ways(int) weave() why(int,int) wide(int) write(int,int,long)";

    public static void main(String[] args) throws Exception {
        face();
        classes();
        source();
        Due.end();
    }

    private static void face() {
        Set<String> methods = new TreeSet<>();
        for (Method m : NoThree.class.getDeclaredMethods()) {
            if (!Modifier.isPrivate(m.getModifiers())) {
                StringBuilder types = new StringBuilder();
                for (Class<?> type : m.getParameterTypes()) {
                    types.append(types.length() > 0 ? "," : "").append(type.getName());
                }
                methods.add(m.getName() + "(" + types + ")");
                Due.is(0, "public: " + m, Modifier.isPublic(m.getModifiers()) && !Modifier.isStatic(m.getModifiers()));
                boolean isLong = m.getName().equals("ways") || m.getName().equals("write");
                Due.is(0, "answers: " + m, m.getReturnType() == (isLong ? long.class : int.class));
            }
        }
        Due.is(0, "the face: " + methods, methods.equals(new TreeSet<>(List.of(FACE.split(" ")))));
        Due.is(0, "constructors", NoThree.class.getConstructors().length, 1);
        for (Constructor<?> c : NoThree.class.getDeclaredConstructors()) {
            Due.is(0, "constructor " + c, Modifier.isPublic(c.getModifiers()) && c.getParameterCount() == 0);
        }
        for (Field f : NoThree.class.getDeclaredFields()) {
            Due.is(0, "field " + f, Modifier.isPrivate(f.getModifiers()) || f.getName().equals("NONE"));
        }
        int m = NoThree.class.getModifiers();
        Due.is(0, "public and final", Modifier.isPublic(m) && Modifier.isFinal(m) && NoThree.class.getPackageName().isEmpty());
    }

    private static void classes() {
        Class<?>[] inside = NoThree.class.getDeclaredClasses();
        Due.is(0, "classes", inside.length < 12);
        for (Class<?> c : inside) {
            int m = c.getModifiers();
            Due.is(0, "static: " + c, Modifier.isStatic(m) && !Modifier.isPublic(m) && !Modifier.isProtected(m));
        }
        Set<String> open = new TreeSet<>();
        for (Method m : NoThree.class.getMethods()) {
            open.add(m.getName());
        }
        Class<?>[] all = Arrays.copyOf(inside, inside.length + 1);
        all[inside.length] = NoThree.class;
        for (Class<?> c : all) {
            int fields = 0;
            for (Field f : c.getDeclaredFields()) {
                boolean isStatic = Modifier.isStatic(f.getModifiers());
                fields += isStatic ? 0 : 1;
                Due.is(0, "a constant: " + f, !isStatic || Modifier.isFinal(f.getModifiers()));
                Due.is(0, "a constant's type: " + f, !isStatic || f.getType() == int.class || f.getType() == int[].class);
            }
            Due.is(0, "fields of " + c, fields <= 20);
            for (Method m : c.getDeclaredMethods()) {
                Due.is(0, "parameters of " + m, m.getParameterCount() <= 7);
                Due.is(0, "the name of a public one: " + m, Modifier.isPublic(m.getModifiers()) || !open.contains(m.getName()));
            }
        }
    }

    private static void source() throws Exception {
        String text = Files.readString(Paths.get("src/main/java/NoThree.java"));
        for (char sign : text.toCharArray()) {
            if (sign != '\n' && (sign < 32 || sign > 126)) {
                Due.is(0, "a sign " + (int) sign, false);
            }
        }
        String code = text.replaceAll("(?s)/\\*.*?\\*/", " ").replaceAll("//[^\n]*", " ").replaceAll("\"[^\"\n]*\"", "\"\"");
        for (String word : List.of("throw", "throws", "try", "catch", "finally", "synchronized", "assert", "volatile", "double",
                "float", "var", "yield", "instanceof", "Object", "Class", "Thread", "Runtime", "package", "native", "interface")) {
            Due.is(0, "no " + word, !Pattern.compile("\\b" + word + "\\b").matcher(code).find());
        }
        for (String piece : List.of("->", "::", "Exact", "@", "System.", "while (true)", "for (;;)", "static {")) {
            Due.is(0, "no " + piece, !code.contains(piece));
        }
        Matcher imports = Pattern.compile("import ([^;]*);").matcher(code);
        while (imports.find()) {
            Due.is(0, "import " + imports.group(1), imports.group(1).equals("java.util.Arrays"));
        }
        Matcher calls = Pattern.compile("\\b(Math|Integer|Long|Arrays)\\.(\\w+)").matcher(code);
        while (calls.find()) {
            Due.is(0, "library: " + calls.group(), List.of("Math.min", "Math.max", "Integer.bitCount", "Arrays.fill")
                    .contains(calls.group()));
        }
        madeInConstructorsAlone(code);
        shortMethods(text);
    }

    /** The room of a run is small: all objects and arrays are made with the object itself. */
    private static void madeInConstructorsAlone(String code) {
        Matcher made = Pattern.compile("\n( *)([^\n]*\\bnew\\b[^\n]*)").matcher(code);
        while (made.find()) {
            boolean field = made.group(2).matches("(private |final |static )*[\\w\\[\\]]+ \\w+ = new [^\n]*;");
            Due.is(0, "made: " + made.group(2), field && made.group(1).length() <= 8);
        }
    }

    private static void shortMethods(String text) {
        int start = -1;
        String[] lines = text.split("\n");
        for (int i = 0; i < lines.length; i++) {
            if (lines[i].matches(" {4}( {4})?[\\w\\[\\]].*\\) \\{")) {
                start = i;
            } else if (start >= 0 && lines[i].matches(" {4}( {4})?\\}")) {
                Due.is(0, "lines of " + lines[start].trim(), i - start <= 60);
                start = -1;
            }
        }
    }
}
