import java.io.ByteArrayInputStream;
import java.io.DataInputStream;
import java.io.IOException;
import java.io.InputStream;
import java.util.ArrayList;
import java.util.HashMap;
import java.util.LinkedHashMap;
import java.util.List;
import java.util.Map;
import java.util.Set;
import java.util.TreeSet;

/**
 * The rules of ../shared/LANGUAGE.md that the compiled class shows: the library's calls are those of rule 4 (so there is
 * no lambda and no joining by + either), nothing is caught but what rule 6 lists, just Joiner.step calls itself (rule
 * 8), other calls go at most eight deep (rule 11), and objects are made in constructors, but for exceptions.
 */
public final class CallsTest {
    private static final int DEEPEST = 8;
    private static final Set<String> RECURSIVE = Set.of("DatalogMill$Joiner.step(I)V");
    private static final Set<String> EXCEPTIONS = Set.of("java/lang/IllegalStateException",
            "java/lang/IllegalArgumentException", "java/lang/IndexOutOfBoundsException", "java/lang/ArithmeticException",
            "java/lang/UnsupportedOperationException", "java/util/NoSuchElementException", "java/lang/RuntimeException");
    private static final Map<String, Set<String>> LIBRARY = Map.of(
            "java/lang/Object", Set.of("<init>"),
            "java/lang/String", Set.of("length", "charAt", "isEmpty", "equals", "indexOf", "substring", "toCharArray", "<init>"),
            "java/lang/StringBuilder", Set.of("<init>", "append", "charAt", "setCharAt", "setLength", "deleteCharAt",
                    "reverse", "length", "toString"),
            "java/util/ArrayList", Set.of("<init>", "add", "get", "set", "remove", "size", "isEmpty", "clear", "iterator"),
            "java/lang/Math", Set.of("max", "min", "abs", "floorDiv", "floorMod"),
            "java/lang/Integer", Set.of("compare", "max", "min", "bitCount"),
            "java/lang/Long", Set.of("compare", "max", "min", "bitCount"),
            "java/lang/System", Set.of("arraycopy"),
            "java/util/Arrays", Set.of("copyOf", "copyOfRange", "fill"));
    /** How long the instructions from each of these numbers on are; 0 for those that tell it themselves. */
    private static final int[][] LENGTHS = {{0, 1}, {16, 2}, {17, 3}, {18, 2}, {19, 3}, {21, 2}, {26, 1}, {54, 2}, {59, 1},
        {132, 3}, {133, 1}, {153, 3}, {169, 2}, {170, 0}, {172, 1}, {178, 3}, {185, 5}, {187, 3}, {188, 2}, {189, 3},
        {190, 1}, {192, 3}, {194, 1}, {196, 0}, {197, 4}, {198, 3}, {200, 5}, {202, 0}};
    private static final int TABLE_SWITCH = 170, LOOKUP_SWITCH = 171, FIRST_INVOKE = 182, INVOKE_DYNAMIC = 186;
    private static final int NEW = 187, NEW_ARRAY = 188, ARRAY_OF_OBJECTS = 189, WIDE = 196, ARRAY_OF_ARRAYS = 197, IINC = 132;

    /** For each method of the program, the methods that it calls, its own and the library's. */
    private static final Map<String, Set<String>> CALLED = new LinkedHashMap<>();
    private static final Map<String, Integer> DEPTHS = new HashMap<>();
    private static int wrong = 0;

    private final Map<Integer, String> names = new HashMap<>();
    private final Map<Integer, int[]> pairs = new HashMap<>();
    private final String owner;

    private CallsTest(String owner) {
        this.owner = owner;
    }

    public static void main(String[] arguments) throws IOException {
        for (Class<?> c : DatalogMill.class.getNestMembers()) {
            try (InputStream file = DatalogMill.class.getResourceAsStream(c.getName() + ".class")) {
                new CallsTest(c.getName()).read(new DataInputStream(new ByteArrayInputStream(file.readAllBytes())));
            }
        }
        int deepest = 0;
        for (String method : CALLED.keySet()) {
            int depth = depthOf(method, new ArrayList<>());
            deepest = Math.max(deepest, depth);
            if (depth > DEEPEST) {
                fault(method + " and what it calls are " + depth + " deep");
            }
        }
        System.out.println(CALLED.size() + " methods, calls at most " + deepest + " deep, " + wrong + " faults");
        if (wrong != 0 || CALLED.size() < 30) {
            System.exit(1);
        }
    }

    private static void fault(String text) {
        wrong++;
        System.out.println(text);
    }

    // ---- what calls what

    private static int depthOf(String method, List<String> open) {
        if (DEPTHS.containsKey(method)) {
            return DEPTHS.get(method);
        }
        int deepest = 0;
        open.add(method);
        for (String called : calledBy(method)) {
            if (!open.contains(called)) {
                deepest = Math.max(deepest, depthOf(called, open));
            } else if (!called.equals(method) || !RECURSIVE.contains(method)) {
                fault(method + " calls " + called + " again");
            }
        }
        open.remove(method);
        DEPTHS.put(method, deepest + 1);
        return deepest + 1;
    }

    /** A call of a Visitor may go to each one that there is. */
    private static Set<String> calledBy(String method) {
        Set<String> called = new TreeSet<>();
        for (String each : CALLED.getOrDefault(method, Set.of())) {
            String visit = each.startsWith("DatalogMill$Visitor.") ? each.substring(each.indexOf('.')) : "";
            if (visit.isEmpty() || visit.startsWith(".<init>")) {
                called.add(each);
            } else {
                CALLED.keySet().stream().filter(m -> m.endsWith(visit)).forEach(called::add);
            }
        }
        return called;
    }

    // ---- the class file

    private void read(DataInputStream in) throws IOException {
        in.skipBytes(8);
        readNames(in);
        in.skipBytes(6);
        in.skipBytes(2 * in.readUnsignedShort());
        for (int field = in.readUnsignedShort(); field > 0; field--) {
            in.skipBytes(6);
            for (int i = in.readUnsignedShort(); i > 0; i--) {
                in.skipBytes(2);
                in.skipBytes(in.readInt());
            }
        }
        for (int method = in.readUnsignedShort(); method > 0; method--) {
            in.skipBytes(2);
            String name = names.get(in.readUnsignedShort());
            String full = owner + "." + name + names.get(in.readUnsignedShort());
            CALLED.put(full, new TreeSet<>());
            for (int i = in.readUnsignedShort(); i > 0; i--) {
                boolean isCode = names.get(in.readUnsignedShort()).equals("Code");
                byte[] attribute = new byte[in.readInt()];
                in.readFully(attribute);
                if (isCode) {
                    readCode(full, name.startsWith("<"), new DataInputStream(new ByteArrayInputStream(attribute)));
                }
            }
        }
    }

    private void readNames(DataInputStream in) throws IOException {
        int size = in.readUnsignedShort();
        for (int i = 1; i < size; i++) {
            int tag = in.readUnsignedByte();
            if (tag == 1) {
                names.put(i, in.readUTF());
            } else if (tag == 3 || tag == 4) {
                in.skipBytes(4);
            } else if (tag == 5 || tag == 6) {
                in.skipBytes(8);
                i++;
            } else if (tag == 15) {
                in.skipBytes(3);
            } else {
                boolean isPair = tag >= 9 && tag <= 12 || tag == 17 || tag == 18;
                pairs.put(i, new int[] {in.readUnsignedShort(), isPair ? in.readUnsignedShort() : 0});
            }
        }
    }

    private String nameAt(int index) {
        return names.get(pairs.get(index)[0]);
    }

    private void readCode(String method, boolean isConstructor, DataInputStream in) throws IOException {
        in.skipBytes(4);
        byte[] code = new byte[in.readInt()];
        in.readFully(code);
        for (int at = 0; at < code.length; at += lengthOf(code, at)) {
            int what = code[at] & 255;
            if (what >= FIRST_INVOKE && what < INVOKE_DYNAMIC) {
                lookAtCall(method, shortAt(code, at + 1));
            } else if (what == INVOKE_DYNAMIC) {
                fault(method + " has a lambda or joins texts by +");
            } else if (what == NEW && !EXCEPTIONS.contains(nameAt(shortAt(code, at + 1))) && !isConstructor) {
                fault(method + " makes a " + nameAt(shortAt(code, at + 1)));
            } else if ((what == NEW_ARRAY || what == ARRAY_OF_OBJECTS || what == ARRAY_OF_ARRAYS) && !isConstructor) {
                fault(method + " makes an array");
            }
        }
        for (int caught = in.readUnsignedShort(); caught > 0; caught--) {
            in.skipBytes(6);
            int type = in.readUnsignedShort();
            if (type == 0 || !EXCEPTIONS.contains(nameAt(type))) {
                fault(method + " catches " + (type == 0 ? "everything" : nameAt(type)));
            }
        }
    }

    private void lookAtCall(String method, int index) {
        int[] signature = pairs.get(pairs.get(index)[1]);
        String type = nameAt(pairs.get(index)[0]);
        String name = names.get(signature[0]);
        boolean isOwn = type.startsWith("DatalogMill");
        boolean isException = EXCEPTIONS.contains(type) && name.equals("<init>");
        if (!isOwn && !isException && !LIBRARY.getOrDefault(type, Set.of()).contains(name)) {
            fault(method + " calls " + type + "." + name);
        }
        CALLED.get(method).add(type + "." + name + names.get(signature[1]));
    }

    private static int lengthOf(byte[] code, int at) {
        int what = code[at] & 255;
        if (what == WIDE) {
            return (code[at + 1] & 255) == IINC ? 6 : 4;
        }
        int table = (at / 4 + 1) * 4;
        if (what == TABLE_SWITCH) {
            return table + 12 + 4 * (intAt(code, table + 8) - intAt(code, table + 4) + 1) - at;
        }
        if (what == LOOKUP_SWITCH) {
            return table + 8 + 8 * intAt(code, table + 4) - at;
        }
        int length = 0;
        for (int i = 0; i + 1 < LENGTHS.length; i++) {
            length = what >= LENGTHS[i][0] && what < LENGTHS[i + 1][0] ? LENGTHS[i][1] : length;
        }
        if (length == 0) {
            throw new IllegalStateException("an instruction that is none: " + what);
        }
        return length;
    }

    private static int shortAt(byte[] code, int at) {
        return (code[at] & 255) << 8 | code[at + 1] & 255;
    }

    private static int intAt(byte[] code, int at) {
        return shortAt(code, at) << 16 | shortAt(code, at + 2);
    }
}
