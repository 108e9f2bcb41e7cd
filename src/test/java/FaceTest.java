import java.io.IOException;
import java.lang.reflect.Constructor;
import java.lang.reflect.Field;
import java.lang.reflect.InvocationTargetException;
import java.lang.reflect.Member;
import java.lang.reflect.Method;
import java.lang.reflect.Modifier;
import java.nio.file.Files;
import java.nio.file.Path;
import java.util.ArrayList;
import java.util.Arrays;
import java.util.List;
import java.util.Random;
import java.util.TreeMap;
import java.util.TreeSet;

/** The public face is the document's, to the letter, and nothing else of the class can be seen from outside. */
public final class FaceTest {
    private static final String INDEX = "IndexOutOfBoundsException";
    private static final String ARGUMENT = "IllegalArgumentException";
    private static final String STATE = "IllegalStateException";
    private static int wrong = 0;

    private static void due(String what, Object got, Object want) {
        if (!got.equals(want)) {
            wrong++;
            System.out.println(what + " is " + got + ", due is " + want);
        }
    }

    public static void main(String[] arguments) throws IllegalAccessException, IOException {
        due("the class", Modifier.toString(DatalogMill.class.getModifiers()), "public final");
        due("constructors", shown(DatalogMill.class.getDeclaredConstructors()), List.of("DatalogMill() []"));
        due("methods", shown(DatalogMill.class.getDeclaredMethods()), methods());
        due("constants", constants(), dueConstants());
        dueHidden();
        dueHeadings();
        dueThrown();
        System.out.println(wrong + " faults of the face");
        if (wrong != 0) {
            System.exit(1);
        }
    }

    private static List<String> shown(java.lang.reflect.Executable[] all) {
        TreeSet<String> shown = new TreeSet<>();
        for (java.lang.reflect.Executable e : all) {
            if (!Modifier.isPrivate(e.getModifiers())) {
                String type = e instanceof Method ? ((Method) e).getReturnType() + " " : "";
                String name = type + e.getName() + Arrays.toString(e.getParameterTypes());
                List<String> thrown = new ArrayList<>();
                for (Class<?> c : e.getExceptionTypes()) {
                    thrown.add(c.getSimpleName());
                }
                shown.add(name.replace('[', '(').replace(']', ')') + " " + thrown);
            }
        }
        return new ArrayList<>(shown);
    }

    private static List<String> methods() {
        TreeSet<String> due = new TreeSet<>();
        String row = "int, int, int, int";
        add(due, "int", "relation", "int, int", ARGUMENT, STATE);
        add(due, "int", "fact", row + ", int, int", INDEX, ARGUMENT, STATE);
        add(due, "int", "takeBack", row, INDEX, ARGUMENT, STATE);
        add(due, "int", "pass", "int", ARGUMENT, STATE);
        add(due, "int", "now", "");
        add(due, "int", "facts", "");
        add(due, "void", "rule", row + ", int", INDEX, ARGUMENT);
        add(due, "int", "atom", "int, boolean, int, int, int", INDEX, ARGUMENT, STATE);
        add(due, "int", "compare", "int, int, int", ARGUMENT, STATE);
        add(due, "int", "reckon", row, ARGUMENT, STATE);
        add(due, "int", "add", "", STATE);
        add(due, "void", "drop", "int", INDEX, STATE);
        add(due, "int", "rules", "");
        add(due, "int", "layer", "int", INDEX);
        add(due, "int", "count", "int", INDEX);
        add(due, "int", "rowAt", "int, int", INDEX);
        add(due, "boolean", "holds", row, INDEX, ARGUMENT);
        add(due, "boolean", "holdsAnew", row, INDEX, ARGUMENT);
        for (String name : new String[] {"answers", "goals", "ways", "height", "price", "needs", "reaches"}) {
            add(due, "int", name, row, INDEX, ARGUMENT);
        }
        add(due, "int", "came", "");
        add(due, "int", "went", "");
        add(due, "int", "bindings", "int", INDEX);
        add(due, "int", "repair", "");
        add(due, "int", "repairAt", "int", INDEX);
        return new ArrayList<>(due);
    }

    private static void add(TreeSet<String> due, String type, String name, String parameters, String... thrown) {
        due.add(type + " " + name + "(" + parameters + ") " + Arrays.toString(thrown));
    }

    private static String constants() throws IllegalAccessException {
        TreeMap<String, Object> found = new TreeMap<>();
        for (Field f : DatalogMill.class.getDeclaredFields()) {
            if (!Modifier.isPrivate(f.getModifiers())) {
                found.put(Modifier.toString(f.getModifiers()) + " " + f.getType() + " " + f.getName(), f.get(null));
            }
        }
        return found.toString();
    }

    private static String dueConstants() {
        TreeMap<String, Object> due = new TreeMap<>();
        String[] fromZero = {"PLAIN LEAST GREATEST", "FOLLOWS COUNTS SUMS NEVER", "SAME UNLIKE LESS AT_MOST",
            "PLUS MINUS TIMES LESSER GREATER REST"};
        for (String names : fromZero) {
            String[] each = names.split(" ");
            for (int i = 0; i < each.length; i++) {
                due.put("public static final int " + each[i], i);
            }
        }
        String[] down = {"NONE", "UNSAFE", "LAYERLESS", "SHRINKING", "TOO_MUCH"};
        for (int i = 0; i < down.length; i++) {
            due.put("public static final int " + down[i], -1 - i);
        }
        due.put("public static final int ANY", -1);
        return due.toString();
    }

    /** Where the source has the document's headings, the methods stand under them in the document's order. */
    private static void dueHeadings() throws IOException {
        String[] dueLines = {
            "---- relations and facts", "relation", "fact", "takeBack", "pass", "now", "facts",
            "---- rules", "rule", "atom", "compare", "reckon", "add", "drop", "rules", "layer",
            "---- rows", "count", "rowAt", "holds", "holdsAnew", "answers", "goals", "came", "went",
            "---- ways", "ways", "height", "price", "needs", "reaches",
            "---- what must never follow", "bindings", "repair", "repairAt"};
        List<String> lines = new ArrayList<>();
        for (String line : Files.readAllLines(Path.of("src", "main", "java", "DatalogMill.java"))) {
            if (line.startsWith("    // ---- ") && lines.size() < dueLines.length) {
                lines.add(line.substring(7));
            } else if (line.matches("    public (int|void|boolean) .*")) {
                lines.add(line.replaceAll("^    public [a-z]+ ([a-zA-Z]+)\\(.*$", "$1"));
            }
        }
        if (lines.contains(dueLines[0])) {
            due("the order of the interface", lines, List.of(dueLines));
        }
    }

    /** Whatever is told, in whatever world: a call throws what its clause has, just that, and nothing else. */
    private static void dueThrown() throws IllegalAccessException {
        int[] numbers = {0, 1, -1, 2, 3, 99, 100, 107, 108, 5, 6, -2, 10, 31, 32, Integer.MIN_VALUE, Integer.MAX_VALUE};
        Random random = new Random(1);
        int thrown = 0;
        for (Method m : DatalogMill.class.getMethods()) {
            if (m.getDeclaringClass() != DatalogMill.class) {
                continue;
            }
            for (int world = 0; world < 5; world++) {
                DatalogMill mill = new DatalogMill();
                for (int i = 0; i < 600; i++) {
                    if (i % 100 == 0) {
                        mill = worldOf(world);
                    }
                    // The first numbers, which are often good ones, come more often than the others.
                    int end = 2 + random.nextInt(numbers.length - 1);
                    thrown += throwsRightly(m, mill, random, Arrays.copyOf(numbers, end)) ? 1 : 0;
                }
            }
        }
        due("there were calls that threw: " + thrown, thrown > 10000, true);
    }

    private static DatalogMill worldOf(int world) {
        DatalogMill m = world == 0 ? new DatalogMill() : world == 1 ? Checks.brink() : world == 2 ? Checks.valued()
                : world == 3 ? Checks.paths() : Checks.grouped(8, 4);
        if (world > 0) {
            m.fact(0, 90, 0, 0, 5, 7);
            m.rule(DatalogMill.NEVER, DatalogMill.NONE, 0, 0, 0);
            m.compare(DatalogMill.SAME, 1, 1);
            m.add();
            m.rule(DatalogMill.COUNTS, 1, 0, 0, 0);
            m.compare(DatalogMill.SAME, 1, 1);
        }
        return m;
    }

    private static boolean throwsRightly(Method m, DatalogMill mill, Random random, int[] numbers)
            throws IllegalAccessException {
        Object[] told = new Object[m.getParameterCount()];
        for (int i = 0; i < told.length; i++) {
            int number = numbers[random.nextInt(numbers.length)];
            told[i] = m.getParameterTypes()[i] == boolean.class ? (Object) (number % 2 == 0) : (Object) number;
        }
        try {
            m.invoke(mill, told);
            return false;
        } catch (InvocationTargetException e) {
            Class<?> got = e.getCause().getClass();
            due(m.getName() + Arrays.toString(told) + " may throw " + got, List.of(m.getExceptionTypes()).contains(got), true);
            return true;
        }
    }

    /** Rules 1 and 11 of LANGUAGE.md, as far as they can be seen from here. */
    private static void dueHidden() {
        TreeSet<String> shown = new TreeSet<>();
        for (Method m : DatalogMill.class.getMethods()) {
            shown.add(m.getName());
        }
        for (Member m : DatalogMill.class.getDeclaredMethods()) {
            boolean isPrivate = Modifier.isPrivate(m.getModifiers());
            due("a private method with the public name " + m.getName(), isPrivate && shown.contains(m.getName()), false);
        }
        Class<?>[] inside = DatalogMill.class.getDeclaredClasses();
        due("more than twelve classes: " + inside.length, inside.length > 11, false);
        for (Class<?> c : inside) {
            due(c + " is static", Modifier.isStatic(c.getModifiers()), true);
            due(c + " is seen from outside", Modifier.isPublic(c.getModifiers()), false);
            for (Constructor<?> k : c.getDeclaredConstructors()) {
                due(k + " has more than seven parameters", k.getParameterCount() > 7, false);
            }
            for (Method m : c.getDeclaredMethods()) {
                due(m + " has more than seven parameters", m.getParameterCount() > 7, false);
            }
        }
    }
}
