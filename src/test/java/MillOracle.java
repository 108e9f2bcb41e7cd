import java.util.ArrayList;
import java.util.Arrays;
import java.util.Collections;
import java.util.HashMap;
import java.util.HashSet;
import java.util.LinkedHashSet;
import java.util.List;
import java.util.Map;
import java.util.Set;
import java.util.TreeMap;
import java.util.TreeSet;

/**
 * The document once more, in the plainest way: sets, lists and maps, all found anew for each question.
 * It shares no code with DatalogMill, so that a slip in one of them shows as a difference.
 */
final class MillOracle {
    static final class Relation {
        int columns;
        int kind;
    }

    static final class Fact implements Comparable<Fact> {
        int relation;
        List<Integer> row;
        int price;
        int end;

        public int compareTo(Fact other) {
            return relation != other.relation ? Integer.compare(relation, other.relation) : compareRows(row, other.row);
        }
    }

    /** sort: 0 an atom, 1 a negated one, 2 a comparison, 3 a reckoning (then variable is set). */
    static final class Literal {
        int sort;
        int subject;
        int variable;
        List<Integer> terms;
    }

    static final class Rule {
        int number;
        int kind;
        int relation;
        List<Integer> head = new ArrayList<>();
        List<Literal> body = new ArrayList<>();

        long atoms() {
            return body.stream().filter(l -> l.sort < 2).count();
        }
    }

    /** Rows of each relation; null where there would be too much. */
    static final class World {
        List<TreeSet<List<Integer>>> rows = new ArrayList<>();

        World(int relations) {
            for (int i = 0; i < relations; i++) {
                rows.add(new TreeSet<>(MillOracle::compareRows));
            }
        }
    }

    static int compareRows(List<Integer> x, List<Integer> y) {
        for (int i = 0; i < x.size(); i++) {
            if (!x.get(i).equals(y.get(i))) {
                return Integer.compare(x.get(i), y.get(i));
            }
        }
        return 0;
    }

    List<Relation> relations = new ArrayList<>();
    List<Fact> facts = new ArrayList<>();
    List<Rule> rules = new ArrayList<>();
    Rule draft;
    int time;
    int numbers;
    int came;
    int went;
    World world = new World(0);
    /** Whether the last change was refused for that. */
    boolean isTooMuch;

    // ---- the calls

    int relation(int columns, int kind) {
        if (columns < 1 || columns > 3 || kind < 0 || kind > 2) {
            throw new IllegalArgumentException();
        }
        if (relations.size() == 6) {
            throw new IllegalStateException();
        }
        Relation r = new Relation();
        r.columns = columns;
        r.kind = kind;
        relations.add(r);
        world.rows.add(new TreeSet<>(MillOracle::compareRows));
        return relations.size() - 1;
    }

    int fact(int relation, int a, int b, int c, int price, int end) {
        List<Integer> row = row(relation, a, b, c);
        if (price < 1 || price > 99 || !(end == -1 || end > time)) {
            throw new IllegalArgumentException();
        }
        if (find(relation, row) != null || facts.size() == 24) {
            throw new IllegalStateException();
        }
        Fact f = new Fact();
        f.relation = relation;
        f.row = row;
        f.price = price;
        f.end = end;
        List<Fact> more = new ArrayList<>(facts);
        more.add(f);
        Collections.sort(more);
        change(more, rules, time);
        return facts.size();
    }

    int takeBack(int relation, int a, int b, int c) {
        Fact f = find(relation, row(relation, a, b, c));
        if (f == null) {
            throw new IllegalStateException();
        }
        change(without(f, null), rules, time);
        return f.price;
    }

    int pass(int steps) {
        if (steps < 1 || steps > 100) {
            throw new IllegalArgumentException();
        }
        int then = time + steps;
        List<Fact> left = new ArrayList<>();
        for (Fact f : facts) {
            if (f.end == -1 || f.end > then) {
                left.add(f);
            }
        }
        int gone = facts.size() - left.size();
        change(left, rules, then);
        return gone;
    }

    int now() {
        return time;
    }

    int facts() {
        return facts.size();
    }

    void rule(int kind, int relation, int a, int b, int c) {
        boolean isThere = relation >= 0 && relation < relations.size();
        if (kind >= 0 && kind <= 2 && !isThere) {
            throw new IndexOutOfBoundsException();
        }
        if (kind == 3 && relation != -1) {
            throw new IndexOutOfBoundsException();
        }
        if ((kind < 0 || kind > 3) && !isThere && relation != -1) {
            throw new IndexOutOfBoundsException();
        }
        if (kind < 0 || kind > 3) {
            throw new IllegalArgumentException();
        }
        int columns = kind == 3 ? 0 : relations.get(relation).columns;
        List<Integer> terms = told(columns, 0, 107, a, b, c);
        draft = new Rule();
        draft.kind = kind;
        draft.relation = relation;
        draft.head = terms;
    }

    int atom(int relation, boolean isNegated, int a, int b, int c) {
        need(relation);
        List<Integer> terms = told(relations.get(relation).columns, -1, 107, a, b, c);
        if (draft == null || draft.body.size() == 4 || draft.atoms() == 3) {
            throw new IllegalStateException();
        }
        return literal(isNegated ? 1 : 0, relation, -1, terms);
    }

    int compare(int comparison, int left, int right) {
        if (comparison < 0 || comparison > 3) {
            throw new IllegalArgumentException();
        }
        List<Integer> terms = told(2, 0, 107, left, right, 0);
        if (draft == null || draft.body.size() == 4) {
            throw new IllegalStateException();
        }
        return literal(2, comparison, -1, terms);
    }

    int reckon(int variable, int reckoning, int left, int right) {
        if (variable < 100 || variable > 107 || reckoning < 0 || reckoning > 5) {
            throw new IllegalArgumentException();
        }
        List<Integer> terms = told(2, 0, 107, left, right, 0);
        if (draft == null || draft.body.size() == 4) {
            throw new IllegalStateException();
        }
        return literal(3, reckoning, variable, terms);
    }

    private int literal(int sort, int subject, int variable, List<Integer> terms) {
        Literal l = new Literal();
        l.sort = sort;
        l.subject = subject;
        l.variable = variable;
        l.terms = terms;
        draft.body.add(l);
        return draft.body.size();
    }

    int add() {
        if (draft == null || draft.body.isEmpty() || rules.size() == 10) {
            throw new IllegalStateException();
        }
        Rule added = draft;
        draft = null;
        List<Rule> more = new ArrayList<>(rules);
        more.add(added);
        if (isUnsafe(added)) {
            return -2;
        }
        if (isLayerless(more)) {
            return -3;
        }
        for (Rule r : more) {
            if (r.kind == 0 && isShrinking(r, more)) {
                return -4;
            }
        }
        if (follow(facts, more) == null) {
            return -5;
        }
        change(facts, more, time);
        added.number = numbers++;
        return added.number;
    }

    void drop(int rule) {
        Rule gone = ruleOf(rule);
        List<Rule> left = new ArrayList<>(rules);
        left.remove(gone);
        change(facts, left, time);
    }

    int rules() {
        return rules.size();
    }

    int layer(int relation) {
        need(relation);
        return layerOf(relation, rules);
    }

    int count(int relation) {
        need(relation);
        return world.rows.get(relation).size();
    }

    int rowAt(int relation, int place) {
        need(relation);
        if (place < 0 || place >= world.rows.get(relation).size()) {
            throw new IndexOutOfBoundsException();
        }
        List<Integer> row = new ArrayList<>(world.rows.get(relation)).get(place);
        int[] abc = new int[3];
        for (int i = 0; i < row.size(); i++) {
            abc[i] = row.get(i);
        }
        return 10000 * abc[0] + 100 * abc[1] + abc[2];
    }

    boolean holds(int relation, int a, int b, int c) {
        return world.rows.get(check(relation, a, b, c)).contains(row(relation, a, b, c));
    }

    boolean holdsAnew(int relation, int a, int b, int c) {
        List<Integer> row = row(relation, a, b, c);
        return follow(facts, rules).rows.get(relation).contains(row);
    }

    int answers(int relation, int a, int b, int c) {
        need(relation);
        List<Integer> asked = told(relations.get(relation).columns, -1, 99, a, b, c);
        int n = 0;
        for (List<Integer> row : world.rows.get(relation)) {
            n += fits(asked, row, emptyBinding()) != null ? 1 : 0;
        }
        return n;
    }

    int goals(int relation, int a, int b, int c) {
        need(relation);
        List<Integer> first = new ArrayList<>(told(relations.get(relation).columns, -1, 99, a, b, c));
        first.add(0, relation);
        Set<List<Integer>> all = new LinkedHashSet<>();
        List<List<Integer>> open = new ArrayList<>();
        all.add(first);
        open.add(first);
        while (!open.isEmpty() && all.size() < 20000) {
            for (List<Integer> asked : asks(open.remove(open.size() - 1))) {
                if (all.add(asked)) {
                    open.add(asked);
                }
            }
        }
        return Math.min(500, all.size());
    }

    int came() {
        return came;
    }

    int went() {
        return went;
    }

    int ways(int relation, int a, int b, int c) {
        List<Integer> row = row(relation, a, b, c);
        if (!world.rows.get(relation).contains(row)) {
            return 0;
        }
        return waysTo(relation, row).size();
    }

    int height(int relation, int a, int b, int c) {
        List<Integer> row = row(relation, a, b, c);
        Integer found = costs(true).get(relation).get(row);
        return found == null ? -1 : found;
    }

    int price(int relation, int a, int b, int c) {
        List<Integer> row = row(relation, a, b, c);
        Integer found = costs(false).get(relation).get(row);
        return found == null ? -1 : found;
    }

    int needs(int relation, int a, int b, int c) {
        List<Integer> row = row(relation, a, b, c);
        if (!world.rows.get(relation).contains(row)) {
            return 0;
        }
        int n = 0;
        for (Fact f : facts) {
            World w = follow(without(f, null), rules);
            n += w != null && !w.rows.get(relation).contains(row) ? 1 : 0;
        }
        return n;
    }

    int reaches(int rule, int a, int b, int c) {
        Rule r = ruleOf(rule);
        if (r.kind != 0) {
            throw new IllegalArgumentException();
        }
        List<Integer> row = row(r.relation, a, b, c);
        int[] put = emptyBinding();
        for (int i = 0; i < row.size(); i++) {
            if (!put(put, r.head.get(i), row.get(i))) {
                return -1;
            }
        }
        int far = 0;
        for (int n = 1; n <= r.body.size(); n++) {
            boolean isThere = false;
            for (List<Integer> binding : bindings(r, world, n, emptyBinding())) {
                boolean isHead = true;
                for (int v = 0; v < 8; v++) {
                    isHead &= put[v] == -1 || binding.get(v) == -1 || put[v] == binding.get(v);
                }
                isThere |= isHead;
            }
            far = isThere ? n : far;
        }
        return far;
    }

    int bindings(int rule) {
        Rule r = ruleOf(rule);
        return bindings(r, world, r.body.size(), emptyBinding()).size();
    }

    int repair() {
        return repairs() == null ? -1 : repairs().size();
    }

    int repairAt(int place) {
        List<Integer> found = repairs();
        if (found == null || place < 0 || place >= found.size()) {
            throw new IndexOutOfBoundsException();
        }
        return found.get(place);
    }

    // ---- what they are made of

    private void need(int relation) {
        if (relation < 0 || relation >= relations.size()) {
            throw new IndexOutOfBoundsException();
        }
    }

    private int check(int relation, int a, int b, int c) {
        row(relation, a, b, c);
        return relation;
    }

    private List<Integer> row(int relation, int a, int b, int c) {
        need(relation);
        return told(relations.get(relation).columns, 0, 99, a, b, c);
    }

    private static List<Integer> told(int columns, int low, int high, int... abc) {
        List<Integer> terms = new ArrayList<>();
        for (int i = 0; i < 3; i++) {
            if (i < columns ? abc[i] < low || abc[i] > high : abc[i] != 0) {
                throw new IllegalArgumentException();
            }
            if (i < columns) {
                terms.add(abc[i]);
            }
        }
        return terms;
    }

    private Rule ruleOf(int number) {
        for (Rule r : rules) {
            if (r.number == number) {
                return r;
            }
        }
        throw new IndexOutOfBoundsException();
    }

    private Fact find(int relation, List<Integer> row) {
        for (Fact f : facts) {
            if (f.relation == relation && f.row.equals(row)) {
                return f;
            }
        }
        return null;
    }

    private List<Fact> without(Fact one, Fact other) {
        List<Fact> left = new ArrayList<>(facts);
        left.remove(one);
        left.remove(other);
        return left;
    }

    private void change(List<Fact> newFacts, List<Rule> newRules, int newTime) {
        World then = follow(newFacts, newRules);
        isTooMuch = then == null;
        if (then == null) {
            throw new IllegalStateException();
        }
        came = 0;
        went = 0;
        for (int r = 0; r < relations.size(); r++) {
            for (List<Integer> row : then.rows.get(r)) {
                came += world.rows.get(r).contains(row) ? 0 : 1;
            }
            for (List<Integer> row : world.rows.get(r)) {
                went += then.rows.get(r).contains(row) ? 0 : 1;
            }
        }
        facts = newFacts;
        rules = newRules;
        time = newTime;
        world = then;
    }

    private static int[] emptyBinding() {
        int[] binding = new int[8];
        Arrays.fill(binding, -1);
        return binding;
    }

    private static boolean put(int[] binding, int term, int number) {
        if (term < 100) {
            return term == number;
        }
        if (binding[term - 100] == -1) {
            binding[term - 100] = number;
        }
        return binding[term - 100] == number;
    }

    private static int[] fits(List<Integer> terms, List<Integer> row, int[] binding) {
        int[] more = binding.clone();
        for (int i = 0; i < terms.size(); i++) {
            if (terms.get(i) != -1 && !put(more, terms.get(i), row.get(i))) {
                return null;
            }
        }
        return more;
    }

    private static int number(int term, int[] binding) {
        return term < 100 ? term : binding[term - 100];
    }

    private static int reckoned(int reckoning, int x, int y) {
        int[] made = {x + y, x - y, x * y, Math.min(x, y), Math.max(x, y), y == 0 ? 0 : x % y};
        return Math.max(0, Math.min(99, made[reckoning]));
    }

    private static boolean isSo(int comparison, int x, int y) {
        boolean[] so = {x == y, x != y, x < y, x <= y};
        return so[comparison];
    }

    /** All ways to give the variables of the first n literals numbers, with these given already. */
    private Set<List<Integer>> bindings(Rule rule, World w, int n, int[] given) {
        Set<List<Integer>> now = new HashSet<>();
        now.add(list(given));
        for (int i = 0; i < n; i++) {
            Literal l = rule.body.get(i);
            Set<List<Integer>> next = new HashSet<>();
            for (List<Integer> old : now) {
                int[] binding = old.stream().mapToInt(x -> x).toArray();
                if (l.sort == 0) {
                    for (List<Integer> row : w.rows.get(l.subject)) {
                        int[] more = fits(l.terms, row, binding);
                        if (more != null) {
                            next.add(list(more));
                        }
                    }
                } else if (l.sort == 1) {
                    if (w.rows.get(l.subject).stream().allMatch(row -> fits(l.terms, row, binding) == null)) {
                        next.add(old);
                    }
                } else {
                    int x = number(l.terms.get(0), binding);
                    int y = number(l.terms.get(1), binding);
                    int[] more = binding.clone();
                    if (l.sort == 2 ? isSo(l.subject, x, y) : put(more, l.variable, reckoned(l.subject, x, y))) {
                        next.add(list(more));
                    }
                }
            }
            now = next;
        }
        return now;
    }

    private static List<Integer> list(int[] numbers) {
        List<Integer> l = new ArrayList<>();
        for (int n : numbers) {
            l.add(n);
        }
        return l;
    }

    private static List<Integer> headOf(Rule r, List<Integer> binding) {
        List<Integer> made = new ArrayList<>();
        for (int t : r.head) {
            made.add(t < 100 ? t : binding.get(t - 100));
        }
        return made;
    }

    /** The groups of a COUNTS or SUMS rule: the row that each makes, and its bindings. */
    private Map<List<Integer>, List<List<Integer>>> groups(Rule r, World w) {
        Map<List<Integer>, List<List<Integer>>> byKey = new HashMap<>();
        for (List<Integer> binding : bindings(r, w, r.body.size(), emptyBinding())) {
            List<Integer> key = headOf(r, binding).subList(0, r.head.size() - 1);
            byKey.computeIfAbsent(key, k -> new ArrayList<>()).add(binding);
        }
        Map<List<Integer>, List<List<Integer>>> groups = new HashMap<>();
        for (Map.Entry<List<Integer>, List<List<Integer>>> e : byKey.entrySet()) {
            int total = 0;
            for (List<Integer> binding : e.getValue()) {
                total += r.kind == 1 ? 1 : headOf(r, binding).get(r.head.size() - 1);
            }
            List<Integer> made = new ArrayList<>(e.getKey());
            made.add(Math.min(99, total));
            groups.put(made, e.getValue());
        }
        return groups;
    }

    private List<List<Integer>> made(Rule r, World w) {
        List<List<Integer>> made = new ArrayList<>();
        if (r.kind == 0) {
            for (List<Integer> binding : bindings(r, w, r.body.size(), emptyBinding())) {
                made.add(headOf(r, binding));
            }
        } else {
            made.addAll(groups(r, w).keySet());
        }
        return made;
    }

    /** Adds a row; answers whether anything is other than it was. */
    private boolean grow(World w, int relation, List<Integer> row) {
        TreeSet<List<Integer>> rows = w.rows.get(relation);
        int kind = relations.get(relation).kind;
        int last = row.size() - 1;
        if (kind != 0) {
            for (List<Integer> other : rows) {
                if (other.subList(0, last).equals(row.subList(0, last))) {
                    int difference = Integer.compare(row.get(last), other.get(last));
                    if (kind == 1 ? difference >= 0 : difference <= 0) {
                        return false;
                    }
                    rows.remove(other);
                    break;
                }
            }
        }
        return rows.add(row);
    }

    private World follow(List<Fact> someFacts, List<Rule> someRules) {
        World w = new World(relations.size());
        for (int layer = 0; layer < 7; layer++) {
            for (Fact f : someFacts) {
                if (layerOf(f.relation, someRules) == layer) {
                    grow(w, f.relation, f.row);
                }
            }
            boolean isNew = true;
            while (isNew) {
                isNew = false;
                List<Runnable> additions = new ArrayList<>();
                boolean[] grew = {false};
                for (Rule r : someRules) {
                    if (r.kind != 3 && layerOf(r.relation, someRules) == layer) {
                        for (List<Integer> row : made(r, w)) {
                            additions.add(() -> grew[0] |= grow(w, r.relation, row));
                        }
                    }
                }
                additions.forEach(Runnable::run);
                isNew = grew[0];
                for (TreeSet<List<Integer>> rows : w.rows) {
                    if (rows.size() > 32) {
                        return null;
                    }
                }
            }
        }
        return w;
    }

    // ---- what hangs on what

    private static boolean hangs(int one, int other, List<Rule> rs, Set<Integer> seen) {
        for (Rule r : rs) {
            if (r.kind != 3 && r.relation == one) {
                for (Literal l : r.body) {
                    if (l.sort < 2 && (l.subject == other || (seen.add(l.subject) && hangs(l.subject, other, rs, seen)))) {
                        return true;
                    }
                }
            }
        }
        return false;
    }

    private static boolean oneCircle(int one, int other, List<Rule> rs) {
        return one == other || (hangs(one, other, rs, new HashSet<>()) && hangs(other, one, rs, new HashSet<>()));
    }

    private boolean isNear(Rule r, Literal l, List<Rule> rs) {
        return r.kind == 0 && l.sort == 0
                && (relations.get(l.subject).kind == 0 || oneCircle(l.subject, r.relation, rs));
    }

    private final Map<List<Rule>, int[]> layersOf = new java.util.IdentityHashMap<>();

    private int layerOf(int relation, List<Rule> rs) {
        int[] layers = layersOf.get(rs);
        if (layers == null || layers.length != relations.size()) {
            layers = new int[relations.size()];
            for (int round = 0; round < 50; round++) {
                for (Rule r : rs) {
                    for (Literal l : r.body) {
                        if (r.kind != 3 && l.sort < 2) {
                            int least = layers[l.subject] + (isNear(r, l, rs) ? 0 : 1);
                            layers[r.relation] = Math.max(layers[r.relation], least);
                        }
                    }
                }
            }
            layersOf.clear();
            layersOf.put(rs, layers);
        }
        return layers[relation];
    }

    private boolean isLayerless(List<Rule> rs) {
        for (Rule r : rs) {
            for (Literal l : r.body) {
                boolean isBad = l.sort == 1 || (l.sort == 0 && (r.kind == 1 || r.kind == 2));
                if (r.kind != 3 && isBad && oneCircle(r.relation, l.subject, rs)) {
                    return true;
                }
            }
        }
        return false;
    }

    private static Set<Integer> variables(List<Integer> terms) {
        Set<Integer> found = new HashSet<>();
        for (int t : terms) {
            if (t >= 100) {
                found.add(t);
            }
        }
        return found;
    }

    private static boolean isUnsafe(Rule r) {
        Set<Integer> known = new HashSet<>();
        for (Literal l : r.body) {
            if (l.sort == 0) {
                known.addAll(variables(l.terms));
                continue;
            }
            if (!known.containsAll(variables(l.terms))) {
                return true;
            }
            if (l.sort == 3 && !known.add(l.variable)) {
                return true;
            }
        }
        if (!known.containsAll(variables(r.head))) {
            return true;
        }
        return r.kind == 1 && r.head.get(r.head.size() - 1) != 0;
    }

    private boolean isGrowing(Rule r, Literal l, List<Rule> rs) {
        return l.sort == 0 && relations.get(l.subject).kind != 0 && oneCircle(l.subject, r.relation, rs);
    }

    private boolean isShrinking(Rule r, List<Rule> rs) {
        Set<Integer> falls = new HashSet<>();
        Set<Integer> rises = new HashSet<>();
        for (int again = 0; again < 10; again++) {
            for (Literal l : r.body) {
                if (isGrowing(r, l, rs)) {
                    int value = l.terms.get(l.terms.size() - 1);
                    if (value >= 100) {
                        (relations.get(l.subject).kind == 1 ? falls : rises).add(value);
                    }
                }
                if (l.sort == 3) {
                    if (moves(l, falls, rises)) {
                        falls.add(l.variable);
                    }
                    if (moves(l, rises, falls)) {
                        rises.add(l.variable);
                    }
                }
            }
        }
        Set<Integer> either = new HashSet<>(falls);
        either.addAll(rises);
        Set<Integer> ahead = new HashSet<>();
        for (Literal l : r.body) {
            boolean isGrowing = isGrowing(r, l, rs);
            int last = l.terms.size() - 1;
            if (isGrowing && l.terms.get(last) != -1 && (l.terms.get(last) < 100 || ahead.contains(l.terms.get(last)))) {
                return true;
            }
            if (l.sort < 2) {
                for (int v : either) {
                    int times = Collections.frequency(l.terms, v);
                    if (times > 0 && !(times == 1 && isGrowing && l.terms.get(last) == v)) {
                        return true;
                    }
                }
            }
            if (l.sort == 2) {
                int x = l.terms.get(0);
                int y = l.terms.get(1);
                boolean isOrder = l.subject >= 2;
                if (falls.contains(x) && !(isOrder && !either.contains(y))) {
                    return true;
                }
                if (falls.contains(y)) {
                    return true;
                }
                if (rises.contains(y) && !(isOrder && !either.contains(x))) {
                    return true;
                }
                if (rises.contains(x)) {
                    return true;
                }
            }
            if (l.sort == 3 && l.terms.stream().anyMatch(either::contains)
                    && !moves(l, falls, rises) && !moves(l, rises, falls)) {
                return true;
            }
            ahead.addAll(variables(l.terms));
            if (l.sort == 3) {
                ahead.add(l.variable);
            }
        }
        for (int i = 0; i < r.head.size(); i++) {
            int kind = relations.get(r.relation).kind;
            boolean isValue = kind != 0 && i == r.head.size() - 1;
            if (falls.contains(r.head.get(i)) && !(isValue && kind == 1)) {
                return true;
            }
            if (rises.contains(r.head.get(i)) && !(isValue && kind == 2)) {
                return true;
            }
        }
        return false;
    }

    /** Whether the variable of a reckoning moves as those do, and not as the others do. */
    private static boolean moves(Literal l, Set<Integer> those, Set<Integer> others) {
        int x = l.terms.get(0);
        int y = l.terms.get(1);
        if (l.subject == 5) {
            return false;
        }
        if (l.subject == 1) {
            boolean yRests = !those.contains(y) && !others.contains(y);
            boolean xRests = !those.contains(x) && !others.contains(x);
            return (those.contains(x) && yRests) || (xRests && others.contains(y));
        }
        return (those.contains(x) || those.contains(y)) && !others.contains(x) && !others.contains(y);
    }

    // ---- goals, ways, heights, prices, repairs

    private Set<List<Integer>> asks(List<Integer> goal) {
        Set<List<Integer>> asked = new LinkedHashSet<>();
        int relation = goal.get(0);
        for (Rule r : rules) {
            if (r.kind == 3 || r.relation != relation) {
                continue;
            }
            int looked = r.head.size();
            if (relations.get(relation).kind != 0 || r.kind != 0) {
                looked--;
            }
            int[] put = emptyBinding();
            boolean isGood = true;
            for (int i = 0; i < looked; i++) {
                isGood &= goal.get(i + 1) == -1 || put(put, r.head.get(i), goal.get(i + 1));
            }
            for (int i = 0; isGood && i < r.body.size(); i++) {
                Literal l = r.body.get(i);
                if (l.sort >= 2) {
                    continue;
                }
                for (List<Integer> binding : bindings(r, world, i, put)) {
                    List<Integer> next = new ArrayList<>();
                    next.add(l.subject);
                    for (int k = 0; k < l.terms.size(); k++) {
                        int t = l.terms.get(k);
                        boolean isValue = relations.get(l.subject).kind != 0 && k == l.terms.size() - 1;
                        next.add(isValue ? -1 : t < 100 ? t : binding.get(t - 100));
                    }
                    asked.add(next);
                }
            }
        }
        return asked;
    }

    /** Each way is a list of atoms, each of which is a list of the rows that fit; a fact is one with its price. */
    static final class Way {
        Fact fact;
        List<Map.Entry<Integer, List<List<Integer>>>> atoms = new ArrayList<>();
    }

    private void addAtoms(Way way, Rule r, List<Integer> binding) {
        int[] numbers = binding.stream().mapToInt(x -> x).toArray();
        for (Literal l : r.body) {
            if (l.sort == 0) {
                List<List<Integer>> fitting = new ArrayList<>();
                for (List<Integer> row : world.rows.get(l.subject)) {
                    if (fits(l.terms, row, numbers) != null) {
                        fitting.add(row);
                    }
                }
                way.atoms.add(Map.entry(l.subject, fitting));
            }
        }
    }

    private List<Way> waysTo(int relation, List<Integer> row) {
        List<Way> ways = new ArrayList<>();
        Fact f = find(relation, row);
        if (f != null) {
            Way way = new Way();
            way.fact = f;
            ways.add(way);
        }
        for (Rule r : rules) {
            if (r.kind == 0 && r.relation == relation) {
                for (List<Integer> binding : bindings(r, world, r.body.size(), emptyBinding())) {
                    if (headOf(r, binding).equals(row)) {
                        Way way = new Way();
                        addAtoms(way, r, binding);
                        ways.add(way);
                    }
                }
            } else if (r.kind != 3 && r.relation == relation) {
                for (Map.Entry<List<Integer>, List<List<Integer>>> group : groups(r, world).entrySet()) {
                    if (group.getKey().equals(row)) {
                        Way way = new Way();
                        for (List<Integer> binding : group.getValue()) {
                            addAtoms(way, r, binding);
                        }
                        ways.add(way);
                    }
                }
            }
        }
        return ways;
    }

    private World costedWorld;
    private Map<Boolean, List<Map<List<Integer>, Integer>>> costed = new HashMap<>();

    private List<Map<List<Integer>, Integer>> costs(boolean isHeight) {
        if (costedWorld != world) {
            costed.clear();
            costedWorld = world;
        }
        if (!costed.containsKey(isHeight) || costed.get(isHeight).size() != relations.size()) {
            costed.put(isHeight, findCosts(isHeight));
        }
        return costed.get(isHeight);
    }

    private List<Map<List<Integer>, Integer>> findCosts(boolean isHeight) {
        List<Map<List<Integer>, List<Way>>> ways = new ArrayList<>();
        List<Map<List<Integer>, Integer>> costs = new ArrayList<>();
        for (int r = 0; r < relations.size(); r++) {
            ways.add(new TreeMap<>(MillOracle::compareRows));
            costs.add(new TreeMap<>(MillOracle::compareRows));
            for (List<Integer> row : world.rows.get(r)) {
                ways.get(r).put(row, waysTo(r, row));
            }
        }
        boolean isNew = true;
        while (isNew) {
            isNew = false;
            for (int r = 0; r < relations.size(); r++) {
                for (List<Integer> row : world.rows.get(r)) {
                    for (Way way : ways.get(r).get(row)) {
                        Integer cost = cost(way, costs, isHeight);
                        Integer old = costs.get(r).get(row);
                        if (cost != null && (old == null || cost < old)) {
                            costs.get(r).put(row, cost);
                            isNew = true;
                        }
                    }
                }
            }
        }
        return costs;
    }

    private static Integer cost(Way way, List<Map<List<Integer>, Integer>> costs, boolean isHeight) {
        if (way.fact != null) {
            return isHeight ? 0 : way.fact.price;
        }
        long total = 0;
        for (Map.Entry<Integer, List<List<Integer>>> atom : way.atoms) {
            Integer best = null;
            for (List<Integer> row : atom.getValue()) {
                Integer cost = costs.get(atom.getKey()).get(row);
                if (cost != null && (best == null || cost < best)) {
                    best = cost;
                }
            }
            if (best == null) {
                return null;
            }
            total = isHeight ? Math.max(total, best) : total + best;
        }
        return isHeight ? (int) (1 + total) : (int) Math.min(9999, 1 + total);
    }

    private World repairedWorld;
    private List<Integer> repaired;

    private List<Integer> repairs() {
        if (repairedWorld != world) {
            repaired = findRepairs();
            repairedWorld = world;
        }
        return repaired;
    }

    private boolean isBroken(World w) {
        for (Rule r : rules) {
            if (r.kind == 3 && !bindings(r, w, r.body.size(), emptyBinding()).isEmpty()) {
                return true;
            }
        }
        return false;
    }

    private List<Integer> findRepairs() {
        if (!isBroken(world)) {
            return List.of();
        }
        for (int i = 0; i < facts.size(); i++) {
            World w = follow(without(facts.get(i), null), rules);
            if (w != null && !isBroken(w)) {
                return List.of(i);
            }
        }
        for (int i = 0; i < facts.size(); i++) {
            for (int k = i + 1; k < facts.size(); k++) {
                World w = follow(without(facts.get(i), facts.get(k)), rules);
                if (w != null && !isBroken(w)) {
                    return List.of(i, k);
                }
            }
        }
        return null;
    }
}
