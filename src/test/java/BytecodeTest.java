import java.io.ByteArrayInputStream;
import java.io.DataInputStream;
import java.io.InputStream;
import java.nio.ByteBuffer;
import java.util.ArrayDeque;
import java.util.ArrayList;
import java.util.Deque;
import java.util.HashMap;
import java.util.HashSet;
import java.util.List;
import java.util.Map;
import java.util.Set;
import java.util.TreeMap;
import java.util.TreeSet;

/** The rules of ../shared/LANGUAGE.md that are seen in the compiled class; promise 0 stands for them here. */
final class BytecodeTest {
    private static final Set<String> LIBRARY = Set.of("java/lang/Math.min(II)I", "java/lang/Math.max(II)I",
            "java/lang/Math.min(JJ)J", "java/lang/Math.max(JJ)J", "java/lang/Integer.bitCount(I)I",
            "java/util/Arrays.fill([II)V", "java/lang/String.length()I", "java/lang/String.charAt(I)C",
            "java/lang/String.indexOf(I)I", "java/lang/Object.<init>()V");

    // The lengths of the instructions 0 to 201; 0: told by what follows.
    private static final String LENGTHS = "1111111111111111" + "2323322222111111" + "1111111111111111" + "1111112222211111"
            + "1111111111111111" + "1111111111111111" + "1111111111111111" + "1111111111111111" + "1111311111111111"
            + "1111111113333333" + "3333333332001111" + "1133333335532311" + "3311043355";

    private static final int WIDE = 0xc4;
    private static final int[] DIVISIONS = {0x6c, 0x6d, 0x70, 0x71};
    private static final int[] MAKERS = {0xbb, 0xbc, 0xbd, 0xc5};
    // athrow, checkcast, instanceof, monitors, subroutines, calls that are bound at run time
    private static final int[] NEVER = {0xbf, 0xc0, 0xc1, 0xc2, 0xc3, 0xa8, 0xa9, 0xba};

    private static final Map<String, Set<String>> CALLS = new TreeMap<>();
    private static final Set<String> FACE = new TreeSet<>();
    private static final Set<String> PRIVATE = new TreeSet<>();

    private Object[] pool;
    private int[] tags;
    private String owner;

    public static void main(String[] args) throws Exception {
        List<Class<?>> all = new ArrayList<>(List.of(NoThree.class.getDeclaredClasses()));
        all.add(NoThree.class);
        for (Class<?> c : all) {
            new BytecodeTest().read(c);
        }
        Due.is(0, "methods", CALLS.size() > 200);
        Due.is(0, "the face", FACE.size(), 53);
        library();
        depths();
        Due.end();
    }

    // ---- class files

    private void read(Class<?> c) throws Exception {
        byte[] file;
        try (InputStream in = c.getResourceAsStream(c.getName() + ".class")) {
            file = in.readAllBytes();
        }
        DataInputStream in = new DataInputStream(new ByteArrayInputStream(file));
        in.skipBytes(8);
        readPool(in);
        in.readUnsignedShort();
        owner = className(in.readUnsignedShort());
        in.readUnsignedShort();
        in.skipBytes(2 * in.readUnsignedShort());
        readMembers(in, false);
        readMembers(in, true);
    }

    private void readPool(DataInputStream in) throws Exception {
        int n = in.readUnsignedShort();
        pool = new Object[n];
        tags = new int[n];
        for (int i = 1; i < n; i++) {
            tags[i] = in.readUnsignedByte();
            switch (tags[i]) {
                case 1:
                    pool[i] = in.readUTF();
                    break;
                case 3:
                    pool[i] = in.readInt();
                    break;
                case 5:
                    pool[i] = in.readLong();
                    i++;
                    break;
                case 7:
                case 8:
                case 16:
                case 19:
                case 20:
                    pool[i] = new int[] {in.readUnsignedShort()};
                    break;
                case 9:
                case 10:
                case 11:
                case 12:
                    pool[i] = new int[] {in.readUnsignedShort(), in.readUnsignedShort()};
                    break;
                default:
                    // Doubles, floats, handles: none of these is due in the class.
                    throw new IllegalStateException("a constant of kind " + tags[i]);
            }
        }
    }

    private String text(int i) {
        return (String) pool[i];
    }

    private String className(int i) {
        return text(((int[]) pool[i])[0]);
    }

    private String memberName(int i) {
        int[] member = (int[]) pool[i];
        int[] name = (int[]) pool[member[1]];
        return className(member[0]) + "." + text(name[0]) + text(name[1]);
    }

    private void readMembers(DataInputStream in, boolean methods) throws Exception {
        int n = in.readUnsignedShort();
        for (int i = 0; i < n; i++) {
            int access = in.readUnsignedShort();
            String name = text(in.readUnsignedShort());
            String method = owner + "." + name + text(in.readUnsignedShort());
            if (methods && (access & 1) != 0 && !name.equals("<init>")) {
                FACE.add(method);
            }
            if (methods && (access & 2) != 0) {
                PRIVATE.add(method);
            }
            int attributes = in.readUnsignedShort();
            for (int k = 0; k < attributes; k++) {
                String attribute = text(in.readUnsignedShort());
                byte[] body = in.readNBytes(in.readInt());
                if (attribute.equals("Code")) {
                    readCode(method, ByteBuffer.wrap(body));
                }
            }
        }
    }

    private void readCode(String method, ByteBuffer body) {
        Set<String> calls = CALLS.computeIfAbsent(method, m -> new TreeSet<>());
        int length = body.getInt(4);
        int start = 8;
        boolean makes = method.contains(".<init>") || method.contains(".<clinit>");
        int before = -1;
        int beforeAt = -1;
        for (int at = 0; at < length; ) {
            int code = body.get(start + at) & 255;
            String where = method + " at " + at;
            Due.is(0, "no such instruction, " + code + ": " + where, !isOneOf(code, NEVER));
            Due.is(0, "an object or array made: " + where, makes || !isOneOf(code, MAKERS));
            if (isOneOf(code, DIVISIONS) && !method.startsWith("NoThree.century(")) {
                Due.is(0, "a divisor that is no constant: " + where, isConstant(body, start, before, beforeAt));
            }
            if (code >= 0xb6 && code <= 0xb9) {
                calls.add(memberName(body.getShort(start + at + 1) & 65535));
            }
            before = code;
            beforeAt = at;
            at += lengthOf(body, start, at, code);
        }
        Due.is(0, "nothing is caught: " + method, body.getShort(start + length), 0);
    }

    private static boolean isOneOf(int code, int[] codes) {
        for (int c : codes) {
            if (c == code) {
                return true;
            }
        }
        return false;
    }

    /** Whether an instruction puts an int other than 0 on the stack. */
    private boolean isConstant(ByteBuffer body, int start, int code, int at) {
        if (code >= 0x02 && code <= 0x08) {
            return code != 0x03;
        }
        if (code == 0x10) {
            return body.get(start + at + 1) != 0;
        }
        return code == 0x11 && body.getShort(start + at + 1) != 0;
    }

    private static int lengthOf(ByteBuffer body, int start, int at, int code) {
        int padded = at + 4 - at % 4;
        if (code == 0xaa) {
            return padded - at + 12 + 4 * (body.getInt(start + padded + 8) - body.getInt(start + padded + 4) + 1);
        }
        if (code == 0xab) {
            return padded - at + 8 + 8 * body.getInt(start + padded + 4);
        }
        if (code == WIDE) {
            return (body.get(start + at + 1) & 255) == 0x84 ? 6 : 4;
        }
        return LENGTHS.charAt(code) - '0';
    }

    // ---- calls

    private static void library() {
        for (Map.Entry<String, Set<String>> m : CALLS.entrySet()) {
            for (String call : m.getValue()) {
                Due.is(0, m.getKey() + " calls " + call, CALLS.containsKey(call) || LIBRARY.contains(call));
            }
        }
    }

    /** Rule 8: who calls itself, or those who call it, is private. Rule 11: calls go eight deep, the library's too. */
    private static void depths() {
        Map<String, Set<String>> reach = new HashMap<>();
        for (String m : CALLS.keySet()) {
            Set<String> reached = reachOf(m);
            reach.put(m, reached);
            Due.is(0, "private, for it calls itself: " + m, !reached.contains(m) || PRIVATE.contains(m));
        }
        Map<String, Integer> known = new HashMap<>();
        for (String m : FACE) {
            int depth = depthOf(m, reach, known);
            Due.is(0, m + " goes " + depth + " deep", depth <= 8);
        }
    }

    private static Set<String> reachOf(String method) {
        Set<String> seen = new HashSet<>();
        Deque<String> open = new ArrayDeque<>(CALLS.get(method));
        while (!open.isEmpty()) {
            String m = open.pop();
            if (seen.add(m)) {
                open.addAll(CALLS.getOrDefault(m, Set.of()));
            }
        }
        return seen;
    }

    private static boolean areOneRound(String a, String b, Map<String, Set<String>> reach) {
        return a.equals(b) || reach.getOrDefault(a, Set.of()).contains(b) && reach.getOrDefault(b, Set.of()).contains(a);
    }

    /** Methods that call one another round count once. */
    private static int depthOf(String method, Map<String, Set<String>> reach, Map<String, Integer> known) {
        if (known.containsKey(method)) {
            return known.get(method);
        }
        int deepest = 0;
        Set<String> round = new HashSet<>(Set.of(method));
        for (String m : reach.getOrDefault(method, Set.of())) {
            if (areOneRound(method, m, reach)) {
                round.add(m);
            }
        }
        for (String m : round) {
            for (String call : CALLS.getOrDefault(m, Set.of())) {
                if (!round.contains(call)) {
                    deepest = Math.max(deepest, depthOf(call, reach, known));
                }
            }
        }
        known.put(method, deepest + 1);
        return deepest + 1;
    }
}
