import java.io.ByteArrayInputStream;
import java.io.DataInputStream;
import java.io.IOException;
import java.io.InputStream;
import java.util.ArrayList;
import java.util.HashMap;
import java.util.List;
import java.util.Map;
import java.util.Set;
import java.util.TreeMap;
import java.util.TreeSet;

/** What of LANGUAGE.md can be seen in the compiled classes: the library's calls, how deep calls go, what is never run. */
public final class CodeTest {
    private static final Set<String> LIBRARY = Set.of("java/lang/Object.<init>", "java/lang/Math.min",
        "java/lang/Math.max", "java/lang/Integer.bitCount", "java/lang/System.arraycopy", "java/util/Arrays.fill",
        "java/lang/String.length", "java/lang/String.charAt");
    private static final Set<String> RECURSIVE = Set.of("DishLines$Reader.test", "DishLines$Reader.both",
        "DishLines$Reader.plain", "DishLines$Reader.inRound", "DishLines$Reader.sum", "DishLines$Reader.term",
        "DishLines$Reader.part", "DishLines$Reader.inSquare", "DishLines$Pedigree.seek");
    private static final int MOST_DEEP = 8;

    private static final int INVOKE_DYNAMIC = 0xba;
    private static final int THROW = 0xbf;
    private static final int ENTER = 0xc2;
    private static final int LEAVE = 0xc3;

    /** Who calls whom; methods of one name in one class are one. */
    private static final Map<String, Set<String>> CALLS = new TreeMap<>();
    private static final Map<String, Integer> DEEP = new HashMap<>();
    private static final Map<String, Set<String>> REACHED = new HashMap<>();

    public static void main(String[] args) throws IOException {
        List<Class<?>> all = new ArrayList<>(List.of(DishLines.class.getDeclaredClasses()));
        all.add(DishLines.class);
        for (Class<?> one : all) {
            read(one.getName());
        }
        for (String name : CALLS.keySet()) {
            REACHED.put(name, reached(name));
        }
        Set<String> turning = new TreeSet<>();
        for (String name : CALLS.keySet()) {
            if (REACHED.get(name).contains(name)) {
                turning.add(name);
            }
        }
        Check.holds("recursive are " + turning, turning.equals(RECURSIVE));
        for (String name : CALLS.keySet()) {
            Check.holds(name + " goes " + deep(name) + " deep", deep(name) <= MOST_DEEP);
        }
        // the reading itself must not have seen nothing
        Check.holds("the dearest calls go eight deep", deep("DishLines.steps") == MOST_DEEP);
        Check.end();
    }

    private static Set<String> reached(String from) {
        Set<String> found = new TreeSet<>();
        List<String> open = new ArrayList<>(CALLS.getOrDefault(from, Set.of()));
        while (!open.isEmpty()) {
            String next = open.remove(open.size() - 1);
            if (found.add(next)) {
                open.addAll(CALLS.getOrDefault(next, Set.of()));
            }
        }
        return found;
    }

    private static boolean isSameTurn(String one, String other) {
        return one.equals(other) || REACHED.getOrDefault(one, Set.of()).contains(other)
            && REACHED.getOrDefault(other, Set.of()).contains(one);
    }

    /** Methods that call one another in turn count once, the library's methods as others do. */
    private static int deep(String name) {
        Integer known = DEEP.get(name);
        if (known != null) {
            return known;
        }
        int most = 0;
        Set<String> turn = new TreeSet<>(Set.of(name));
        for (String other : REACHED.getOrDefault(name, Set.of())) {
            if (isSameTurn(name, other)) {
                turn.add(other);
            }
        }
        for (String one : turn) {
            for (String called : CALLS.getOrDefault(one, Set.of())) {
                if (!turn.contains(called)) {
                    most = Math.max(most, deep(called));
                }
            }
        }
        DEEP.put(name, most + 1);
        return most + 1;
    }

    private static void read(String className) throws IOException {
        byte[] bytes;
        try (InputStream file = DishLines.class.getResourceAsStream(className + ".class")) {
            bytes = file.readAllBytes();
        }
        DataInputStream in = new DataInputStream(new ByteArrayInputStream(bytes));
        in.skipBytes(8);
        Object[] pool = pool(in);
        in.skipBytes(6);
        in.skipBytes(2 * in.readUnsignedShort());
        members(in, pool, className, false);
        members(in, pool, className, true);
    }

    /** Texts stand there as they are; a class as its text's place; the others as two places. */
    private static Object[] pool(DataInputStream in) throws IOException {
        Object[] pool = new Object[in.readUnsignedShort()];
        for (int i = 1; i < pool.length; i++) {
            int tag = in.readUnsignedByte();
            switch (tag) {
                case 1 -> pool[i] = in.readUTF();
                case 3, 4 -> in.skipBytes(4);
                case 5, 6 -> {
                    in.skipBytes(8);
                    i++;
                }
                case 7, 8, 16, 19, 20 -> pool[i] = new int[] {in.readUnsignedShort()};
                case 15 -> in.skipBytes(3);
                default -> pool[i] = new int[] {in.readUnsignedShort(), in.readUnsignedShort()};
            }
        }
        return pool;
    }

    private static void members(DataInputStream in, Object[] pool, String className, boolean methods)
            throws IOException {
        int some = in.readUnsignedShort();
        for (int i = 0; i < some; i++) {
            in.skipBytes(2);
            String name = className + "." + pool[in.readUnsignedShort()];
            in.skipBytes(2);
            int attributes = in.readUnsignedShort();
            for (int k = 0; k < attributes; k++) {
                String kind = (String) pool[in.readUnsignedShort()];
                int length = in.readInt();
                byte[] body = new byte[length];
                in.readFully(body);
                if (methods && kind.equals("Code")) {
                    code(new DataInputStream(new ByteArrayInputStream(body)), pool, name);
                }
            }
        }
    }

    private static void code(DataInputStream in, Object[] pool, String name) throws IOException {
        in.skipBytes(4);
        byte[] code = new byte[in.readInt()];
        in.readFully(code);
        Check.holds("nothing is caught in " + name, in.readUnsignedShort() == 0);
        Set<String> calls = CALLS.computeIfAbsent(name, n -> new TreeSet<>());
        for (int at = 0; at < code.length; at += lengthAt(code, at)) {
            int op = code[at] & 255;
            Check.holds(op + " is run in " + name,
                op != INVOKE_DYNAMIC && op != THROW && op != ENTER && op != LEAVE);
            if (op < 0xb2 || op > 0xb9) {
                continue;
            }
            int[] told = (int[]) pool[(code[at + 1] & 255) << 8 | code[at + 2] & 255];
            String owner = (String) pool[((int[]) pool[told[0]])[0]];
            String called = owner + "." + pool[((int[]) pool[told[1]])[0]];
            boolean own = owner.startsWith("DishLines");
            if (op < 0xb6) {
                Check.holds(name + " uses the field " + called, own);
            } else {
                Check.holds(name + " calls " + called, own || owner.startsWith("[") || LIBRARY.contains(called));
                calls.add(called);
            }
        }
    }

    private static int lengthAt(byte[] code, int at) {
        int op = code[at] & 255;
        int padded = at + 4 - at % 4;
        if (op == 0xaa) {
            return padded - at + 12 + 4 * (wordAt(code, padded + 8) - wordAt(code, padded + 4) + 1);
        }
        if (op == 0xab) {
            return padded - at + 8 + 8 * wordAt(code, padded + 4);
        }
        if (op == 0xc4) {
            return (code[at + 1] & 255) == 0x84 ? 6 : 4;
        }
        if (op == 0xb9 || op == 0xba || op == 0xc8 || op == 0xc9) {
            return 5;
        }
        if (op == 0xc5) {
            return 4;
        }
        if (op == 0x11 || op == 0x13 || op == 0x14 || op == 0x84 || op >= 0x99 && op <= 0xa8
            || op >= 0xb2 && op <= 0xb8 || op == 0xbb || op == 0xbd || op == 0xc0 || op == 0xc1 || op == 0xc6
            || op == 0xc7) {
            return 3;
        }
        return op == 0x10 || op == 0x12 || op >= 0x15 && op <= 0x19 || op >= 0x36 && op <= 0x3a || op == 0xa9
            || op == 0xbc ? 2 : 1;
    }

    private static int wordAt(byte[] code, int at) {
        return (code[at] & 255) << 24 | (code[at + 1] & 255) << 16 | (code[at + 2] & 255) << 8 | code[at + 3] & 255;
    }
}
