import java.lang.reflect.InvocationTargetException;
import java.lang.reflect.Method;
import java.lang.reflect.Modifier;
import java.util.ArrayList;
import java.util.List;
import java.util.Map;
import java.util.Random;
import java.util.TreeMap;

/**
 * A DatalogMill and a MillOracle, of which the same calls are made, by numbers that are the same each time; each answer
 * and each exception has to be the same.
 */
abstract class Twins {
    private static final String[] NAMES = {
        "relation", "fact", "takeBack", "pass", "now", "facts", "rule", "atom", "compare", "reckon", "add", "drop",
        "rules", "layer", "count", "rowAt", "holds", "holdsAnew", "answers", "goals", "came", "went", "ways",
        "height", "price", "needs", "reaches", "bindings", "repair", "repairAt"};
    static final int[] LENGTHS = {
        2, 6, 4, 1, 0, 0, 5, 5, 3, 4, 0, 1, 0, 1, 1, 2, 4, 4, 4, 4, 0, 0, 4, 4, 4, 4, 4, 1, 0, 1};
    private static final Method[] ON_MILL = methodsOf(DatalogMill.class);
    private static final Method[] ON_ORACLE = methodsOf(MillOracle.class);
    static final int RELATION = 0, FACT = 1, TAKE_BACK = 2, PASS = 3, NOW = 4, FACTS = 5, RULE = 6, ATOM = 7;
    static final int COMPARE = 8, RECKON = 9, ADD = 10, DROP = 11, RULES = 12, LAYER = 13, COUNT = 14;
    static final int ROW_AT = 15, HOLDS = 16, HOLDS_ANEW = 17, ANSWERS = 18, GOALS = 19, CAME = 20, WENT = 21;
    static final int WAYS = 22, HEIGHT = 23, PRICE = 24, NEEDS = 25, REACHES = 26, BINDINGS = 27;
    static final int REPAIR = 28, REPAIR_AT = 29;

    /** How often each answer came. */
    static final Map<String, Integer> SEEN = new TreeMap<>();
    static int wrong = 0;
    static long calls = 0;

    final Random random;
    final MillOracle oracle = new MillOracle();
    final long seed;
    int made = 0;
    /** Whether the world began with a COUNTS or SUMS rule on the brink of too many groups. */
    boolean isGrouped;
    private final DatalogMill mill = new DatalogMill();
    private final List<String> log = new ArrayList<>();

    Twins(long seed) {
        this.seed = seed;
        random = new Random(seed);
    }

    /** The runs are of worth only if they come through all answers that matter. */
    static void requireSeen(String... wanted) {
        for (String name : wanted) {
            if (!SEEN.containsKey(name)) {
                wrong++;
                System.out.println("no run came to: " + name);
            }
        }
    }

    /** Tells how it went (and, if asked for, how often each answer came), and ends the program with 1 if it went wrong. */
    static void end(int objects, boolean isTold) {
        System.out.println(calls + " calls on " + objects + " objects, " + wrong + " not as the oracle's");
        if (isTold) {
            System.out.println(SEEN);
        }
        if (wrong != 0) {
            System.exit(1);
        }
    }

    // ---- one call on both

    private static Method[] methodsOf(Class<?> type) {
        Method[] methods = new Method[NAMES.length];
        for (Method m : type.getDeclaredMethods()) {
            for (int i = 0; i < NAMES.length; i++) {
                if (m.getName().equals(NAMES[i]) && m.getParameterCount() == LENGTHS[i]
                        && !Modifier.isPrivate(m.getModifiers())) {
                    methods[i] = m;
                }
            }
        }
        return methods;
    }

    /** What the call answers, as a text, or the name of what it throws. */
    private static String answer(Method method, Object target, int[] x) {
        Object[] arguments = new Object[x.length];
        for (int i = 0; i < x.length; i++) {
            boolean isTruth = method.getParameterTypes()[i] == boolean.class;
            arguments[i] = isTruth ? (Object) (x[i] == 1) : (Object) x[i];
        }
        try {
            Object answered = method.invoke(target, arguments);
            return answered instanceof Boolean ? ((Boolean) answered ? "1" : "0") : String.valueOf(answered);
        } catch (InvocationTargetException e) {
            return e.getCause().getClass().getSimpleName();
        } catch (IllegalAccessException e) {
            throw new AssertionError(e);
        }
    }

    /** Answers what both answered; the least int if that is no number. */
    int call(int call, int... x) {
        calls++;
        made++;
        oracle.isTooMuch = false;
        String got = answer(ON_MILL[call], mill, x);
        String due = answer(ON_ORACLE[call], oracle, x);
        StringBuilder text = new StringBuilder(NAMES[call]).append('(');
        for (int i = 0; i < x.length; i++) {
            text.append(i == 0 ? "" : ", ").append(x[i]);
        }
        log.add(text.append(") = ").append(due).toString());
        SEEN.merge(NAMES[call] + " " + (due.length() > 3 || call != ROW_AT ? due : "row"), 1, Integer::sum);
        if (oracle.isTooMuch) {
            SEEN.merge("too much by " + NAMES[call], 1, Integer::sum);
            SEEN.merge(isGrouped ? "too many groups" : "too many rows", 1, Integer::sum);
        }
        if (!got.equals(due)) {
            wrong++;
            System.out.println("seed " + seed + ", call " + made + ": " + text + ", but the answer was " + got);
            if (wrong == 1) {
                log.forEach(System.out::println);
            }
        }
        return due.matches("-?[0-9]+") ? Integer.parseInt(due) : Integer.MIN_VALUE;
    }

    // ---- what runs have in common

    int below(int n) {
        return n <= 0 ? 0 : random.nextInt(n);
    }

    boolean chance(int percent) {
        return random.nextInt(100) < percent;
    }

    int anyRelation() {
        return below(oracle.relations.size());
    }

    int columns(int relation) {
        return oracle.relations.get(relation).columns;
    }

    int anyRule() {
        return oracle.rules.isEmpty() ? 0 : oracle.rules.get(below(oracle.rules.size())).number;
    }

    void takeBack(MillOracle.Fact f) {
        int[] x = numbers(f.row);
        call(TAKE_BACK, f.relation, x[0], x[1], x[2]);
    }

    void askRepair() {
        int fewest = call(REPAIR);
        call(REPAIR_AT, 0);
        if (fewest > 0 && chance(50)) {
            call(REPAIR_AT, fewest - 1);
            call(REPAIR_AT, fewest);
        }
    }

    /** The row, with 0 behind its columns. */
    static int[] numbers(List<Integer> row) {
        int[] x = new int[3];
        for (int i = 0; i < row.size(); i++) {
            x[i] = row.get(i);
        }
        return x;
    }
}
