import java.util.ArrayList;
import java.util.Collections;
import java.util.List;
import java.util.regex.Matcher;
import java.util.regex.Pattern;

/**
 * Worlds as one writes them with a purpose (paths, distances, bottlenecks, circles of two relations, layers), in which
 * rows follow from others over many steps, with some terms changed at random; facts come and go, and of many rows
 * all is asked. Arguments: how many objects (44), the first seed (1), and anything more to see how often each answer came.
 */
public final class RecipeTest extends Twins {
    /** Relations with their columns, and "least" or "greatest"; rules; and, told first, how facts are made up. */
    private static final String[][] RECIPES = {
        {"edge NN", "edge 2", "path 2", "node 1", "apart 2", "reach 2",
            "path(X, Y) if edge(X, Y)", "path(X, Z) if path(X, Y), edge(Y, Z)", "node(X) if edge(X, _)",
            "node(Y) if edge(_, Y)", "apart(X, Y) if node(X), node(Y), not path(X, Y)",
            "reach(X, 0) counts path(X, Y)", "never path(X, X)", "never apart(X, Y), reach(X, V), 2 < V"},
        {"edge NN", "edge 2", "path 2", "most 1 greatest", "reach 2", "top 1",
            "path(X, Y) if edge(X, Y)", "path(X, Z) if path(X, Y), path(Y, Z)", "reach(X, 0) counts path(X, Y), X != Y",
            "most(V) if reach(X, V)", "top(X) if most(V), reach(X, V)", "never top(X), path(X, X)",
            "never edge(X, Y), edge(Y, X)"},
        {"edge NNC dist NC", "edge 3", "dist 2 least", "near 1", "far 1", "best 1 least",
            "dist(Y, W) if dist(X, V), edge(X, Y, C), W := V + C", "near(X) if dist(X, V), V <= 7",
            "far(Y) if edge(_, Y, _), not near(Y)", "best(V) if dist(X, V), 0 < V", "never far(X), dist(X, V), 9 < V",
            "never near(X), near(Y), edge(X, Y, 1)"},
        {"edge NNC", "edge 3", "dist 3 least", "total 2", "best 1 least", "centre 1",
            "dist(X, Y, C) if edge(X, Y, C)", "dist(X, Z, W) if dist(X, Y, V), edge(Y, Z, C), W := V + C",
            "total(X, V) sums dist(X, Y, V)", "best(V) if total(X, V)", "centre(X) if total(X, V), best(V)",
            "never dist(X, X, V), V < 5", "never centre(X), edge(X, Y, C), 4 < C"},
        {"edge NNC wide NC", "edge 3", "wide 2 greatest", "long 2 greatest", "poor 1", "sum 1",
            "wide(Y, W) if wide(X, V), edge(X, Y, C), W := V min C", "long(X, C) if edge(X, _, C)",
            "long(Y, W) if long(X, V), edge(X, Y, C), W := V + C", "poor(X) if wide(X, V), V < 3",
            "sum(V) sums wide(X, V)", "never poor(X), long(X, V), 9 < V", "never sum(V), 25 < V"},
        {"edge NN even N", "edge 2", "even 1", "odd 1", "both 1", "how 2",
            "odd(Y) if even(X), edge(X, Y)", "even(Y) if odd(X), edge(X, Y)", "both(X) if even(X), odd(X)",
            "how(X, 0) counts edge(X, Y), not both(Y)", "never both(X), edge(X, X)", "never how(X, V), 1 < V, both(X)"},
        {"edge NNC dist NC", "edge 3", "dist 2 least", "open 1", "shut 1", "price 2",
            "open(X) if dist(X, V), V <= 9", "dist(Y, W) if open(X), dist(X, V), edge(X, Y, C), W := V + C",
            "shut(X) if edge(X, _, _), not open(X)", "price(X, C) sums edge(X, Y, C), open(Y)", "never shut(X), price(X, V), 1 < V",
            "never open(X), open(Y), edge(X, Y, C), C < 2"},
        {"edge NNC low NC high NC", "edge 3", "low 2 least", "high 2 greatest", "met 1", "span 2",
            "high(X, W) if low(X, V), W := 50 - V", "low(Y, W) if high(X, V), edge(X, Y, C), W := 60 - V",
            "low(Y, W) if low(X, V), edge(X, Y, C), W := V * C", "met(X) if high(X, V), 45 <= V, edge(X, _, _)",
            "span(X, W) if low(X, V), high(X, U), W := U - V", "never met(X), span(X, V), 40 < V", "never span(X, V), V < 5"},
        {"up NN", "up 2", "same 2", "root 1", "size 2", "alone 1",
            "same(X, X) if up(X, _)", "same(X, Y) if up(X, P), same(P, Q), up(Y, Q)", "root(Y) if up(_, Y), not up(Y, _)",
            "same(X, Y) if root(X), root(Y)", "size(X, 0) counts same(X, Y)", "alone(X) if size(X, 1)",
            "never alone(X), up(X, X)", "never size(X, V), 3 < V"},
        {"a N n N", "n 1", "a 1", "b 1", "c 1", "d 1", "e 2",
            "b(X) if n(X), not a(X)", "c(X) if n(X), not b(X)", "d(X) if n(X), not c(X), b(_)", "d(Y) if d(X), n(Y), X <= Y",
            "e(X, 0) counts d(X), c(Y)", "e(X, Y) sums b(X), d(Y)", "never e(X, V), 2 < V", "never d(X), c(X)"},
        {"edge NNC rank NC", "edge 3", "rank 2 greatest", "base 1 least", "up 2", "left 2",
            "rank(Y, W) if rank(X, V), edge(X, Y, C), W := V max C", "base(C) if edge(_, _, C)",
            "base(W) if base(V), W := V - 1, 3 < 5", "up(X, Y) if rank(X, V), rank(Y, W), V < W",
            "left(X, W) if rank(X, V), base(C), W := V % C", "never up(X, Y), edge(Y, X, _)", "never left(X, 0), up(X, _)"}};
    private static final Pattern PART = Pattern.compile("(not )?(\\w+)\\(([^)]*)\\)|(\\w+) (!=|=|<=|<) (\\w+)"
            + "|(\\w+) := (\\w+) (\\+|-|\\*|min|max|%) (\\w+)");
    private static final List<String> COMPARISONS = List.of("=", "!=", "<", "<=");
    private static final List<String> RECKONINGS = List.of("+", "-", "*", "min", "max", "%");
    private static final String LETTERS = "XYZVWCUPQ";

    private final String[] recipe;
    private final List<String> names = new ArrayList<>();
    private final List<String> rules = new ArrayList<>();
    private final int nodes;
    private final int dearest;
    /** Of how many terms in a hundred another one is told. */
    private final int changed;

    private RecipeTest(long seed) {
        super(seed);
        recipe = RECIPES[(int) Math.floorMod(seed, (long) RECIPES.length)];
        nodes = 3 + below(4);
        dearest = chance(80) ? 2 + below(8) : 99;
        changed = chance(50) ? 0 : 1 + below(6);
    }

    public static void main(String[] arguments) {
        int objects = arguments.length > 0 ? Integer.parseInt(arguments[0]) : 44;
        long first = arguments.length > 1 ? Long.parseLong(arguments[1]) : 1;
        for (int i = 0; i < objects && wrong < 5; i++) {
            new RecipeTest(first + i).run();
        }
        if (arguments.length == 0) {
            requireSeen("height -1", "height 6", "ways 6", "needs 4", "goals 25", "layer 3", "layer 4", "repair 2",
                    "repair -1", "repairAt 9", "reaches 3", "count 25", "add -2", "add -4", "bindings 25");
        }
        end(objects, arguments.length > 2);
    }

    // ---- a run

    private void run() {
        for (int i = 1; i < recipe.length; i++) {
            if (recipe[i].matches("\\w+ \\d.*")) {
                String[] parts = recipe[i].split(" ");
                names.add(parts[0]);
                int kind = parts.length < 3 ? 0 : parts[2].equals("least") ? 1 : 2;
                call(RELATION, Integer.parseInt(parts[1]), chance(97) ? kind : below(3));
            } else {
                rules.add(recipe[i]);
            }
        }
        int begun = 4 + below(12);
        for (int i = 0; i < begun; i++) {
            tellFact();
        }
        Collections.shuffle(rules, random);
        for (String rule : rules) {
            tell(rule);
        }
        while (made < 470 && wrong == 0) {
            change();
            call(CAME);
            call(WENT);
            for (int i = below(4); i > 0; i--) {
                askOfRow(anyRelation());
            }
            askRepair();
        }
        for (int r = 0; r < names.size(); r++) {
            askAll(r);
        }
    }

    private void change() {
        int dice = below(100);
        if (dice < 50) {
            tellFact();
        } else if (dice < 75 && !oracle.facts.isEmpty()) {
            takeBack(oracle.facts.get(below(oracle.facts.size())));
        } else if (dice < 85) {
            call(PASS, 1 + below(3));
        } else if (dice < 92) {
            call(DROP, anyRule());
        } else {
            tell(rules.get(below(rules.size())));
        }
    }

    /** Facts are mostly of the relations that the recipe begins with. */
    private void tellFact() {
        String[] made = recipe[0].split(" ");
        int which = chance(70) ? 0 : below(made.length / 2);
        int relation = names.indexOf(made[2 * which]);
        String columns = made[2 * which + 1];
        if (chance(4)) {
            relation = anyRelation();
            columns = "NNC".substring(0, columns(relation));
        }
        int[] x = new int[3];
        for (int i = 0; i < columns.length(); i++) {
            x[i] = columns.charAt(i) == 'N' ? below(nodes) : below(dearest + 1);
        }
        call(FACT, relation, x[0], x[1], x[2], 1 + below(20), chance(80) ? -1 : oracle.time + 1 + below(9));
    }

    // ---- rules as they are written

    private void tell(String text) {
        boolean isNever = text.startsWith("never ");
        int cut = isNever ? 5 : text.indexOf(')') + 1;
        String middle = text.substring(cut).trim();
        int kind = isNever ? 3 : middle.startsWith("counts ") ? 1 : middle.startsWith("sums ") ? 2 : 0;
        Matcher head = PART.matcher(text.substring(0, cut));
        if (isNever) {
            call(RULE, 3, -1, 0, 0, 0);
        } else if (head.matches()) {
            int[] x = terms(head.group(3), kind != 1);
            call(RULE, kind, names.indexOf(head.group(2)), x[0], x[1], x[2]);
        }
        Matcher part = PART.matcher(isNever ? middle : middle.substring(middle.indexOf(' ')));
        while (part.find()) {
            tellPart(part);
        }
        call(ADD);
    }

    private void tellPart(Matcher part) {
        if (part.group(2) != null) {
            int[] x = terms(part.group(3), true);
            call(ATOM, names.indexOf(part.group(2)), part.group(1) == null ? 0 : 1, x[0], x[1], x[2]);
        } else if (part.group(5) != null) {
            call(COMPARE, COMPARISONS.indexOf(part.group(5)), term(part.group(4), true), term(part.group(6), true));
        } else {
            call(RECKON, term(part.group(7), false), RECKONINGS.indexOf(part.group(9)), term(part.group(8), true),
                    term(part.group(10), true));
        }
    }

    private int[] terms(String text, boolean canChange) {
        int[] x = new int[3];
        String[] each = text.split(", ");
        for (int i = 0; i < each.length; i++) {
            x[i] = term(each[i], canChange);
        }
        return x;
    }

    private int term(String text, boolean canChange) {
        if (canChange && chance(changed)) {
            int dice = below(100);
            return dice < 20 ? -1 : dice < 55 ? below(nodes) : 100 + below(5);
        }
        if (text.equals("_")) {
            return -1;
        }
        // P and Q are the variables of U and C, as there are just eight.
        int letter = LETTERS.indexOf(text);
        return letter < 0 ? Integer.parseInt(text) : 100 + (letter < 8 ? letter : 5);
    }

    // ---- questions

    private void askAll(int relation) {
        int size = call(COUNT, relation);
        for (int place = 0; place < size; place++) {
            call(ROW_AT, relation, place);
        }
        call(LAYER, relation);
        for (int i = 0; i < Math.min(4, size); i++) {
            askOfRow(relation);
        }
        call(BINDINGS, anyRule());
    }

    private void askOfRow(int relation) {
        List<List<Integer>> rows = new ArrayList<>(oracle.world.rows.get(relation));
        int[] x = rows.isEmpty() || chance(10) ? new int[3] : numbers(rows.get(below(rows.size())));
        int a = x[0];
        int b = x[1];
        int c = x[2];
        call(HEIGHT, relation, a, b, c);
        call(PRICE, relation, a, b, c);
        call(WAYS, relation, a, b, c);
        call(NEEDS, relation, a, b, c);
        call(HOLDS_ANEW, relation, a, b, c);
        for (int i = 0; i < columns(relation); i++) {
            x[i] = chance(40) ? -1 : x[i];
        }
        call(GOALS, relation, x[0], x[1], x[2]);
        call(ANSWERS, relation, x[0], x[1], x[2]);
        for (MillOracle.Rule rule : oracle.rules) {
            if (rule.kind == 0 && rule.relation == relation && chance(60)) {
                int[] y = {a, b, c};
                y[below(columns(relation))] = below(nodes);
                call(REACHES, rule.number, y[0], y[1], y[2]);
            }
        }
        call(BINDINGS, anyRule());
    }
}
