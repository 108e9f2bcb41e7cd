import java.lang.reflect.InvocationTargetException;
import java.lang.reflect.Method;
import java.lang.reflect.Modifier;
import java.util.ArrayList;
import java.util.List;
import java.util.Map;
import java.util.Random;
import java.util.TreeMap;

/**
 * Makes the same calls on a DatalogMill and on a MillOracle, by numbers that are the same each time, and
 * compares each answer and each exception. Arguments: how many objects (300), the first seed (1),
 * and anything more to see how often each answer came.
 */
public final class OracleTest {
    private static final String[] NAMES = {
        "relation", "fact", "takeBack", "pass", "now", "facts", "rule", "atom", "compare", "reckon", "add", "drop",
        "rules", "layer", "count", "rowAt", "holds", "holdsAnew", "answers", "goals", "came", "went", "ways",
        "height", "price", "needs", "reaches", "bindings", "repair", "repairAt"};
    private static final int[] LENGTHS = {
        2, 6, 4, 1, 0, 0, 5, 5, 3, 4, 0, 1, 0, 1, 1, 2, 4, 4, 4, 4, 0, 0, 4, 4, 4, 4, 4, 1, 0, 1};
    private static final Method[] ON_MILL = methodsOf(DatalogMill.class);
    private static final Method[] ON_ORACLE = methodsOf(MillOracle.class);
    private static final int RELATION = 0, FACT = 1, TAKE_BACK = 2, PASS = 3, NOW = 4, FACTS = 5, RULE = 6, ATOM = 7;
    private static final int COMPARE = 8, RECKON = 9, ADD = 10, DROP = 11, RULES = 12, LAYER = 13, COUNT = 14;
    private static final int ROW_AT = 15, HOLDS = 16, HOLDS_ANEW = 17, ANSWERS = 18, GOALS = 19, CAME = 20, WENT = 21;
    private static final int WAYS = 22, HEIGHT = 23, PRICE = 24, NEEDS = 25, REACHES = 26, BINDINGS = 27;
    private static final int REPAIR = 28, REPAIR_AT = 29;

    private static final Map<String, Integer> SEEN = new TreeMap<>();
    private static int wrong = 0;
    private static long calls = 0;

    private final Random random;
    private final DatalogMill mill = new DatalogMill();
    private final MillOracle oracle = new MillOracle();
    private final long seed;
    private final List<String> log = new ArrayList<>();
    private final int domain;
    private final int valuedShare;
    private final int guardedShare;
    private final int unorderedShare;
    private int made = 0;
    /** Whether the world began with a COUNTS or SUMS rule on the brink of too many groups. */
    private boolean isGrouped;

    private OracleTest(long seed) {
        this.seed = seed;
        random = new Random(seed);
        int[] domains = {3, 4, 6, 10, 30, 100};
        domain = domains[random.nextInt(domains.length)];
        valuedShare = random.nextInt(101);
        guardedShare = random.nextInt(4) == 0 ? 30 : 2;
        unorderedShare = random.nextInt(3) == 0 ? 100 : 8;
    }

    public static void main(String[] arguments) {
        int objects = arguments.length > 0 ? Integer.parseInt(arguments[0]) : 300;
        long first = arguments.length > 1 ? Long.parseLong(arguments[1]) : 1;
        for (int i = 0; i < objects && wrong < 5; i++) {
            new OracleTest(first + i).run();
        }
        if (arguments.length == 0) {
            requireVariety();
        }
        System.out.println(calls + " calls on " + objects + " objects, " + wrong + " not as the oracle's");
        if (arguments.length > 2) {
            System.out.println(SEEN);
        }
        if (wrong != 0) {
            System.exit(1);
        }
    }

    /** The runs are of worth only if they come through all answers that matter. */
    private static void requireVariety() {
        String[] wanted = {"add -2", "add -3", "add -4", "add -5", "repair -1", "repair 1", "repair 2", "goals 20",
            "fact IllegalStateException", "height -1", "height 3", "layer 3", "growing rule", "too much by takeBack",
            "too much by drop", "too much by pass", "too much by fact", "too many groups", "repairAt 5", "reaches 4", "count 32"};
        for (String name : wanted) {
            if (!SEEN.containsKey(name)) {
                wrong++;
                System.out.println("no run came to: " + name);
            }
        }
    }

    // ---- one call on both

    private static Method[] methodsOf(Class<?> type) {
        Method[] methods = new Method[NAMES.length];
        for (Method m : type.getDeclaredMethods()) {
            for (int i = 0; i < NAMES.length; i++) {
                if (m.getName().equals(NAMES[i]) && m.getParameterCount() == LENGTHS[i]
                        && !Modifier.isPrivate(m.getModifiers())) {
                    methods[i] = m;
                }
            }
        }
        return methods;
    }

    /** What the call answers, as a text, or the name of what it throws. */
    private static String answer(Method method, Object target, int[] x) {
        Object[] arguments = new Object[x.length];
        for (int i = 0; i < x.length; i++) {
            boolean isTruth = method.getParameterTypes()[i] == boolean.class;
            arguments[i] = isTruth ? (Object) (x[i] == 1) : (Object) x[i];
        }
        try {
            Object answered = method.invoke(target, arguments);
            return answered instanceof Boolean ? ((Boolean) answered ? "1" : "0") : String.valueOf(answered);
        } catch (InvocationTargetException e) {
            return e.getCause().getClass().getSimpleName();
        } catch (IllegalAccessException e) {
            throw new AssertionError(e);
        }
    }

    private int call(int call, int... x) {
        calls++;
        made++;
        oracle.isTooMuch = false;
        String got = answer(ON_MILL[call], mill, x);
        String due = answer(ON_ORACLE[call], oracle, x);
        StringBuilder text = new StringBuilder(NAMES[call]).append('(');
        for (int i = 0; i < x.length; i++) {
            text.append(i == 0 ? "" : ", ").append(x[i]);
        }
        log.add(text.append(") = ").append(due).toString());
        SEEN.merge(NAMES[call] + " " + (due.length() > 3 || call != ROW_AT ? due : "row"), 1, Integer::sum);
        if (oracle.isTooMuch) {
            SEEN.merge("too much by " + NAMES[call], 1, Integer::sum);
            SEEN.merge(isGrouped ? "too many groups" : "too many rows", 1, Integer::sum);
        }
        if (!got.equals(due)) {
            wrong++;
            System.out.println("seed " + seed + ", call " + made + ": " + text + ", but the answer was " + got);
            if (wrong == 1) {
                log.forEach(System.out::println);
            }
        }
        return due.matches("-?[0-9]+") ? Integer.parseInt(due) : Integer.MIN_VALUE;
    }

    // ---- a run

    private int below(int n) {
        return n <= 0 ? 0 : random.nextInt(n);
    }

    private boolean chance(int percent) {
        return random.nextInt(100) < percent;
    }

    private void run() {
        if (seed % 5 == 0) {
            beginOnTheBrink();
        }
        int relations = 2 + below(5);
        for (int i = oracle.relations.size(); i < relations; i++) {
            call(RELATION, 1 + below(3), chance(valuedShare) ? 1 + below(2) : 0);
        }
        int begun = below(12);
        for (int i = 0; i < begun; i++) {
            tellFact();
        }
        while (made < 500 && wrong == 0) {
            change();
            if (chance(60)) {
                ask(1 + below(5));
            }
        }
        dump();
    }

    /** Six rows, whose pairs would be too many rows if it were not for a guard, and something that must not be. */
    private void beginOnTheBrink() {
        call(RELATION, 1, 0);
        call(RELATION, 1, below(2));
        int columns = 2 + below(2);
        int kind = columns == 3 ? below(3) : 0;
        isGrouped = kind != 0;
        call(RELATION, columns, below(3));
        for (int i = 0; i < 6; i++) {
            call(FACT, 0, i, 0, 0, 1 + below(9), chance(90) ? -1 : 1 + below(9));
        }
        int guards = 1 + below(3);
        for (int i = 0; i < guards; i++) {
            call(FACT, 1, i, 0, 0, 1 + below(9), chance(50) ? -1 : 1 + below(9));
        }
        int first = below(2);
        for (int i = 0; i < 2; i++) {
            if (i == first) {
                call(RULE, kind, 2, 100, 101, 0);
                call(ATOM, 0, 0, 100, 0, 0);
                call(ATOM, 0, 0, 101, 0, 0);
                call(ATOM, 1, 1, chance(50) ? -1 : below(2), 0, 0);
            } else {
                call(RULE, 3, -1, 0, 0, 0);
                call(ATOM, chance(70) ? 1 : 0, 0, chance(50) ? -1 : below(3), 0, 0);
                call(ATOM, chance(50) ? 1 : 0, 0, chance(50) ? -1 : below(3), 0, 0);
            }
            call(ADD);
        }
        if (chance(70)) {
            tryTheBrink(guards);
        }
        call(NEEDS, 1, 0, 0, 0);
        call(NEEDS, 0, 0, 0, 0);
        askRepair();
    }

    /** Leaves a rule, or a fact that ends, as the only guard, and lets it go. */
    private void tryTheBrink(int guards) {
        boolean isRule = chance(50);
        int guard = 50 + below(3);
        if (isRule) {
            call(RULE, 0, 1, guard, 0, 0);
            call(COMPARE, 0, 1, 1);
            guard = call(ADD);
        } else {
            call(FACT, 1, guard, 0, 0, 1, oracle.time + 2);
        }
        for (int i = 0; i < guards; i++) {
            call(TAKE_BACK, 1, i, 0, 0);
        }
        if (isRule) {
            call(DROP, guard);
        } else {
            call(PASS, 1 + below(3));
        }
    }

    private void change() {
        int dice = below(100);
        if (dice < 30) {
            tellFact();
        } else if (dice < 38) {
            takeFact();
        } else if (dice < 44) {
            call(PASS, chance(90) ? 1 + below(4) : below(103));
        } else if (dice < 92) {
            tellRule();
        } else if (dice < 96) {
            call(DROP, chance(90) ? anyRule() : below(20) - 1);
        } else if (dice < 97) {
            call(RELATION, below(5), below(4));
        } else {
            wild();
        }
        if (chance(20)) {
            call(CAME);
            call(WENT);
        }
    }

    private int anyRelation() {
        return below(oracle.relations.size());
    }

    /** Mostly a relation ahead of this one, so that rules seldom run in circles that are refused. */
    private int relationAhead(int head, boolean canBeHead) {
        int ahead = canBeHead ? head + 1 : head;
        return ahead == 0 || chance(unorderedShare) ? anyRelation() : below(ahead);
    }

    private int columns(int relation) {
        return oracle.relations.get(relation).columns;
    }

    private int[] row(int relation) {
        int[] x = new int[3];
        for (int i = 0; i < columns(relation); i++) {
            x[i] = below(domain);
        }
        return x;
    }

    private int[] rowThatIs(int relation) {
        List<List<Integer>> rows = new ArrayList<>(oracle.world.rows.get(relation));
        int[] x = row(relation);
        if (!rows.isEmpty() && chance(90)) {
            List<Integer> row = rows.get(below(rows.size()));
            for (int i = 0; i < row.size(); i++) {
                x[i] = row.get(i);
            }
            if (chance(5)) {
                x[below(row.size())] = below(domain);
            }
        }
        return x;
    }

    private void tellFact() {
        int r = anyRelation();
        int[] x = row(r);
        int end = chance(70) ? -1 : oracle.time + below(8);
        call(FACT, r, x[0], x[1], x[2], chance(95) ? 1 + below(20) : 90 + below(12), end);
    }

    private void takeFact() {
        if (oracle.facts.isEmpty() || chance(10)) {
            int r = anyRelation();
            int[] x = rowThatIs(r);
            call(TAKE_BACK, r, x[0], x[1], x[2]);
            return;
        }
        MillOracle.Fact f = oracle.facts.get(below(oracle.facts.size()));
        int[] x = new int[3];
        for (int i = 0; i < f.row.size(); i++) {
            x[i] = f.row.get(i);
        }
        call(TAKE_BACK, f.relation, x[0], x[1], x[2]);
    }

    private int anyRule() {
        return oracle.rules.isEmpty() ? 0 : oracle.rules.get(below(oracle.rules.size())).number;
    }

    /** The literals are told first to lists, so that the head can be made of what they know. */
    private void tellRule() {
        if (oracle.rules.size() == 10 && chance(90)) {
            call(DROP, anyRule());
        }
        if (chance(guardedShare)) {
            tellGuardedRule();
            return;
        }
        List<int[]> body = new ArrayList<>();
        List<Integer> known = new ArrayList<>();
        int kinds = below(100);
        int kind = kinds < 62 ? 0 : kinds < 72 ? 1 : kinds < 82 ? 2 : 3;
        int head = anyRelation();
        boolean isGrowing = kind == 0 && oracle.relations.get(head).kind != 0 && chance(60);
        int literals = 1 + below(4);
        int variables = 2 + below(4);
        int value = -1;
        for (int i = 0; i < literals; i++) {
            int dice = below(100);
            if (i == 0 && chance(95) || dice < 45) {
                int r = isGrowing && chance(50) ? head : relationAhead(head, kind == 0);
                body.add(positive(r, variables, known, i == 0));
                if (isGrowing && r == head && value == -1 && chance(90)) {
                    int v = 106;
                    body.get(i)[2 + columns(r)] = v;
                    value = v;
                    known.add(v);
                }
            } else if (dice < 60) {
                body.add(negated(relationAhead(head, false), known, variables));
            } else if (dice < 78) {
                int left = value != -1 && chance(30) ? value : some(known, 10);
                body.add(new int[] {COMPARE, below(4), left, some(known, 40)});
            } else {
                int v = chance(95) ? fresh(known) : 100 + below(8);
                int left = value != -1 && chance(60) ? value : some(known, 10);
                int right = some(known, 50);
                body.add(chance(80) ? new int[] {RECKON, v, below(6), left, right}
                        : new int[] {RECKON, v, below(6), right, left});
                if (left == value && value != -1) {
                    value = v;
                }
                known.add(v);
            }
        }
        int[] h = new int[3];
        for (int i = 0; kind != 3 && i < columns(head); i++) {
            h[i] = some(known, 8);
        }
        if (kind != 3 && value != -1 && chance(90)) {
            h[columns(head) - 1] = value;
        }
        if (kind == 1 && chance(97)) {
            h[columns(head) - 1] = 0;
        }
        call(RULE, kind, kind == 3 ? -1 : head, h[0], h[1], h[2]);
        for (int[] l : body) {
            tell(l);
        }
        int added = call(ADD);
        if (isGrowing && value != -1 && added >= 0) {
            SEEN.merge("growing rule", 1, Integer::sum);
        }
        if (chance(15)) {
            call(CAME);
        }
    }

    /** A rule that makes many rows unless a negated atom keeps it from that: then less can be too much. */
    private void tellGuardedRule() {
        int head = anyRelation();
        int one = relationAhead(head, false);
        int other = chance(50) ? one : relationAhead(head, false);
        int guard = relationAhead(head, false);
        int[] h = new int[3];
        int[][] l = {{ATOM, one, 0, 0, 0, 0}, {ATOM, other, 0, 0, 0, 0}, {ATOM, guard, 1, 0, 0, 0}};
        for (int i = 0; i < 3; i++) {
            h[i] = i < columns(head) ? (i == 1 ? 103 : 100) : 0;
            l[0][3 + i] = i < columns(one) ? 100 + i : 0;
            l[1][3 + i] = i < columns(other) ? 103 + i : 0;
            l[2][3 + i] = i < columns(guard) ? (chance(60) ? -1 : below(domain)) : 0;
        }
        call(RULE, 0, head, h[0], h[1], h[2]);
        for (int[] literal : l) {
            tell(literal);
        }
        call(ADD);
    }

    private void tell(int[] l) {
        int[] rest = new int[l.length - 1];
        System.arraycopy(l, 1, rest, 0, rest.length);
        call(l[0], rest);
    }

    private int[] positive(int r, int variables, List<Integer> known, boolean isFirst) {
        int[] l = {ATOM, r, 0, 0, 0, 0};
        for (int i = 0; i < columns(r); i++) {
            int dice = below(100);
            int term = dice < (isFirst ? 82 : 75) ? 100 + below(variables) : dice < 90 ? -1 : below(domain);
            l[3 + i] = term;
        }
        for (int i = 0; i < columns(r); i++) {
            if (l[3 + i] >= 100 && !known.contains(l[3 + i])) {
                known.add(l[3 + i]);
            }
        }
        return l;
    }

    private int[] negated(int r, List<Integer> known, int variables) {
        int[] l = {ATOM, r, 1, 0, 0, 0};
        for (int i = 0; i < columns(r); i++) {
            l[3 + i] = chance(25) ? -1 : chance(4) ? 100 + below(variables) : some(known, 15);
        }
        return l;
    }

    private int some(List<Integer> known, int numberShare) {
        if (known.isEmpty() || chance(numberShare)) {
            return chance(97) ? below(domain) : 100 + below(8);
        }
        return known.get(below(known.size()));
    }

    private int fresh(List<Integer> known) {
        for (int v = 100; v < 108; v++) {
            if (!known.contains(v)) {
                return v;
            }
        }
        return 107;
    }

    private int[] pattern(int relation) {
        int[] x = rowThatIs(relation);
        for (int i = 0; i < columns(relation); i++) {
            if (chance(45)) {
                x[i] = -1;
            }
        }
        return x;
    }

    private void ask(int times) {
        for (int i = 0; i < times; i++) {
            int r = anyRelation();
            int[] x = rowThatIs(r);
            int[] p = pattern(r);
            switch (below(18)) {
                case 0: call(COUNT, r); break;
                case 1: call(ROW_AT, r, below(6) - 1); break;
                case 2: call(HOLDS, r, x[0], x[1], x[2]); break;
                case 3: call(HOLDS_ANEW, r, x[0], x[1], x[2]); break;
                case 4: call(ANSWERS, r, p[0], p[1], p[2]); break;
                case 5: case 6: call(GOALS, r, p[0], p[1], p[2]); break;
                case 7: case 8: call(WAYS, r, x[0], x[1], x[2]); break;
                case 9: call(HEIGHT, r, x[0], x[1], x[2]); break;
                case 10: call(PRICE, r, x[0], x[1], x[2]); break;
                case 11: call(NEEDS, r, x[0], x[1], x[2]); break;
                case 12: case 13: askReaches(); break;
                case 14: call(BINDINGS, chance(95) ? anyRule() : below(20) - 2); break;
                case 15: askRepair(); break;
                case 16: call(LAYER, r); call(NOW); call(FACTS); call(RULES); break;
                default: if (chance(20)) { dump(); } break;
            }
        }
    }

    private void askReaches() {
        int number = anyRule();
        for (MillOracle.Rule rule : oracle.rules) {
            if (rule.number == number && rule.kind != 3) {
                int[] x = rowThatIs(rule.relation);
                call(REACHES, number, x[0], x[1], x[2]);
                return;
            }
        }
        call(REACHES, number, below(3), 0, 0);
    }

    private void askRepair() {
        int fewest = call(REPAIR);
        call(REPAIR_AT, 0);
        if (fewest > 0 && chance(50)) {
            call(REPAIR_AT, fewest - 1);
            call(REPAIR_AT, fewest);
        }
    }

    /** Every row, and what can be asked of it. */
    private void dump() {
        for (int r = 0; r < oracle.relations.size(); r++) {
            int n = call(COUNT, r);
            for (int place = 0; place <= n; place++) {
                call(ROW_AT, r, place);
            }
            call(LAYER, r);
            int[] x = rowThatIs(r);
            call(HEIGHT, r, x[0], x[1], x[2]);
            call(PRICE, r, x[0], x[1], x[2]);
            call(WAYS, r, x[0], x[1], x[2]);
        }
    }

    /** Calls whose arguments are anything. */
    private void wild() {
        int name = below(NAMES.length);
        int[] x = new int[6];
        for (int i = 0; i < x.length; i++) {
            int dice = below(100);
            x[i] = dice < 40 ? below(8) - 1 : dice < 60 ? 0 : dice < 80 ? 95 + below(16) : dice < 95 ? below(100)
                    : random.nextInt();
        }
        int[] y = new int[LENGTHS[name]];
        System.arraycopy(x, 0, y, 0, y.length);
        call(name, y);
    }
}
