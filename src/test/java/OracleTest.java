import java.util.ArrayList;
import java.util.List;

/**
 * Random calls, good ones and bad ones, in worlds of random rules. Arguments: how many objects (300), the first seed
 * (1), and anything more to see how often each answer came.
 */
public final class OracleTest extends Twins {
    private final int domain;
    private final int valuedShare;
    private final int guardedShare;
    private final int unorderedShare;

    private OracleTest(long seed) {
        super(seed);
        int[] domains = {3, 4, 6, 10, 30, 100};
        domain = domains[random.nextInt(domains.length)];
        valuedShare = random.nextInt(101);
        guardedShare = random.nextInt(4) == 0 ? 30 : 2;
        unorderedShare = random.nextInt(3) == 0 ? 100 : 8;
    }

    public static void main(String[] arguments) {
        int objects = arguments.length > 0 ? Integer.parseInt(arguments[0]) : 300;
        long first = arguments.length > 1 ? Long.parseLong(arguments[1]) : 1;
        for (int i = 0; i < objects && wrong < 5; i++) {
            new OracleTest(first + i).run();
        }
        if (arguments.length == 0) {
            requireSeen("add -2", "add -3", "add -4", "add -5", "repair -1", "repair 1", "repair 2", "goals 20",
                    "fact IllegalStateException", "height -1", "height 3", "layer 3", "growing rule",
                    "too much by takeBack", "too much by drop", "too much by pass", "too much by fact",
                    "too many groups", "repairAt 5", "reaches 4", "count 32");
        }
        end(objects, arguments.length > 2);
    }

    // ---- a run

    private void run() {
        if (seed % 5 == 0) {
            beginOnTheBrink();
        }
        int relations = 2 + below(5);
        for (int i = oracle.relations.size(); i < relations; i++) {
            call(RELATION, 1 + below(3), chance(valuedShare) ? 1 + below(2) : 0);
        }
        int begun = below(12);
        for (int i = 0; i < begun; i++) {
            tellFact();
        }
        while (made < 500 && wrong == 0) {
            change();
            if (chance(60)) {
                ask(1 + below(5));
            }
        }
        dump();
    }

    /** Six rows, whose pairs would be too many rows if it were not for a guard, and something that must not be. */
    private void beginOnTheBrink() {
        call(RELATION, 1, 0);
        call(RELATION, 1, below(2));
        int columns = 2 + below(2);
        int kind = columns == 3 ? below(3) : 0;
        isGrouped = kind != 0;
        call(RELATION, columns, below(3));
        for (int i = 0; i < 6; i++) {
            call(FACT, 0, i, 0, 0, 1 + below(9), chance(90) ? -1 : 1 + below(9));
        }
        int guards = 1 + below(3);
        for (int i = 0; i < guards; i++) {
            call(FACT, 1, i, 0, 0, 1 + below(9), chance(50) ? -1 : 1 + below(9));
        }
        int first = below(2);
        for (int i = 0; i < 2; i++) {
            if (i == first) {
                call(RULE, kind, 2, 100, 101, 0);
                call(ATOM, 0, 0, 100, 0, 0);
                call(ATOM, 0, 0, 101, 0, 0);
                call(ATOM, 1, 1, chance(50) ? -1 : below(2), 0, 0);
            } else {
                call(RULE, 3, -1, 0, 0, 0);
                call(ATOM, chance(70) ? 1 : 0, 0, chance(50) ? -1 : below(3), 0, 0);
                call(ATOM, chance(50) ? 1 : 0, 0, chance(50) ? -1 : below(3), 0, 0);
            }
            call(ADD);
        }
        if (chance(70)) {
            tryTheBrink(guards);
        }
        call(NEEDS, 1, 0, 0, 0);
        call(NEEDS, 0, 0, 0, 0);
        askRepair();
    }

    /** Leaves a rule, or a fact that ends, as the only guard, and lets it go. */
    private void tryTheBrink(int guards) {
        boolean isRule = chance(50);
        int guard = 50 + below(3);
        if (isRule) {
            call(RULE, 0, 1, guard, 0, 0);
            call(COMPARE, 0, 1, 1);
            guard = call(ADD);
        } else {
            call(FACT, 1, guard, 0, 0, 1, oracle.time + 2);
        }
        for (int i = 0; i < guards; i++) {
            call(TAKE_BACK, 1, i, 0, 0);
        }
        if (isRule) {
            call(DROP, guard);
        } else {
            call(PASS, 1 + below(3));
        }
    }

    private void change() {
        int dice = below(100);
        if (dice < 30) {
            tellFact();
        } else if (dice < 38) {
            takeFact();
        } else if (dice < 44) {
            call(PASS, chance(90) ? 1 + below(4) : below(103));
        } else if (dice < 92) {
            tellRule();
        } else if (dice < 96) {
            call(DROP, chance(90) ? anyRule() : below(20) - 1);
        } else if (dice < 97) {
            call(RELATION, below(5), below(4));
        } else {
            wild();
        }
        if (chance(20)) {
            call(CAME);
            call(WENT);
        }
    }

    /** Mostly a relation ahead of this one, so that rules seldom run in circles that are refused. */
    private int relationAhead(int head, boolean canBeHead) {
        int ahead = canBeHead ? head + 1 : head;
        return ahead == 0 || chance(unorderedShare) ? anyRelation() : below(ahead);
    }

    private int[] row(int relation) {
        int[] x = new int[3];
        for (int i = 0; i < columns(relation); i++) {
            x[i] = below(domain);
        }
        return x;
    }

    private int[] rowThatIs(int relation) {
        List<List<Integer>> rows = new ArrayList<>(oracle.world.rows.get(relation));
        int[] x = row(relation);
        if (!rows.isEmpty() && chance(90)) {
            x = numbers(rows.get(below(rows.size())));
            if (chance(5)) {
                x[below(columns(relation))] = below(domain);
            }
        }
        return x;
    }

    private void tellFact() {
        int r = anyRelation();
        int[] x = row(r);
        int end = chance(70) ? -1 : oracle.time + below(8);
        call(FACT, r, x[0], x[1], x[2], chance(95) ? 1 + below(20) : 90 + below(12), end);
    }

    private void takeFact() {
        if (oracle.facts.isEmpty() || chance(10)) {
            int r = anyRelation();
            int[] x = rowThatIs(r);
            call(TAKE_BACK, r, x[0], x[1], x[2]);
            return;
        }
        takeBack(oracle.facts.get(below(oracle.facts.size())));
    }

    /** The literals are told first to lists, so that the head can be made of what they know. */
    private void tellRule() {
        if (oracle.rules.size() == 10 && chance(90)) {
            call(DROP, anyRule());
        }
        if (chance(guardedShare)) {
            tellGuardedRule();
            return;
        }
        List<int[]> body = new ArrayList<>();
        List<Integer> known = new ArrayList<>();
        int kinds = below(100);
        int kind = kinds < 62 ? 0 : kinds < 72 ? 1 : kinds < 82 ? 2 : 3;
        int head = anyRelation();
        boolean isGrowing = kind == 0 && oracle.relations.get(head).kind != 0 && chance(60);
        int literals = 1 + below(4);
        int variables = 2 + below(4);
        int value = -1;
        for (int i = 0; i < literals; i++) {
            int dice = below(100);
            if (i == 0 && chance(95) || dice < 45) {
                int r = isGrowing && chance(50) ? head : relationAhead(head, kind == 0);
                body.add(positive(r, variables, known, i == 0));
                if (isGrowing && r == head && value == -1 && chance(90)) {
                    int v = 106;
                    body.get(i)[2 + columns(r)] = v;
                    value = v;
                    known.add(v);
                }
            } else if (dice < 60) {
                body.add(negated(relationAhead(head, false), known, variables));
            } else if (dice < 78) {
                int left = value != -1 && chance(30) ? value : some(known, 10);
                body.add(new int[] {COMPARE, below(4), left, some(known, 40)});
            } else {
                int v = chance(95) ? fresh(known) : 100 + below(8);
                int left = value != -1 && chance(60) ? value : some(known, 10);
                int right = some(known, 50);
                body.add(chance(80) ? new int[] {RECKON, v, below(6), left, right}
                        : new int[] {RECKON, v, below(6), right, left});
                if (left == value && value != -1) {
                    value = v;
                }
                known.add(v);
            }
        }
        int[] h = new int[3];
        for (int i = 0; kind != 3 && i < columns(head); i++) {
            h[i] = some(known, 8);
        }
        if (kind != 3 && value != -1 && chance(90)) {
            h[columns(head) - 1] = value;
        }
        if (kind == 1 && chance(97)) {
            h[columns(head) - 1] = 0;
        }
        call(RULE, kind, kind == 3 ? -1 : head, h[0], h[1], h[2]);
        for (int[] l : body) {
            tell(l);
        }
        int added = call(ADD);
        if (isGrowing && value != -1 && added >= 0) {
            SEEN.merge("growing rule", 1, Integer::sum);
        }
        if (chance(15)) {
            call(CAME);
        }
    }

    /** A rule that makes many rows unless a negated atom keeps it from that: then less can be too much. */
    private void tellGuardedRule() {
        int head = anyRelation();
        int one = relationAhead(head, false);
        int other = chance(50) ? one : relationAhead(head, false);
        int guard = relationAhead(head, false);
        int[] h = new int[3];
        int[][] l = {{ATOM, one, 0, 0, 0, 0}, {ATOM, other, 0, 0, 0, 0}, {ATOM, guard, 1, 0, 0, 0}};
        for (int i = 0; i < 3; i++) {
            h[i] = i < columns(head) ? (i == 1 ? 103 : 100) : 0;
            l[0][3 + i] = i < columns(one) ? 100 + i : 0;
            l[1][3 + i] = i < columns(other) ? 103 + i : 0;
            l[2][3 + i] = i < columns(guard) ? (chance(60) ? -1 : below(domain)) : 0;
        }
        call(RULE, 0, head, h[0], h[1], h[2]);
        for (int[] literal : l) {
            tell(literal);
        }
        call(ADD);
    }

    private void tell(int[] l) {
        int[] rest = new int[l.length - 1];
        System.arraycopy(l, 1, rest, 0, rest.length);
        call(l[0], rest);
    }

    private int[] positive(int r, int variables, List<Integer> known, boolean isFirst) {
        int[] l = {ATOM, r, 0, 0, 0, 0};
        for (int i = 0; i < columns(r); i++) {
            int dice = below(100);
            int term = dice < (isFirst ? 82 : 75) ? 100 + below(variables) : dice < 90 ? -1 : below(domain);
            l[3 + i] = term;
        }
        for (int i = 0; i < columns(r); i++) {
            if (l[3 + i] >= 100 && !known.contains(l[3 + i])) {
                known.add(l[3 + i]);
            }
        }
        return l;
    }

    private int[] negated(int r, List<Integer> known, int variables) {
        int[] l = {ATOM, r, 1, 0, 0, 0};
        for (int i = 0; i < columns(r); i++) {
            l[3 + i] = chance(25) ? -1 : chance(4) ? 100 + below(variables) : some(known, 15);
        }
        return l;
    }

    private int some(List<Integer> known, int numberShare) {
        if (known.isEmpty() || chance(numberShare)) {
            return chance(97) ? below(domain) : 100 + below(8);
        }
        return known.get(below(known.size()));
    }

    private int fresh(List<Integer> known) {
        for (int v = 100; v < 108; v++) {
            if (!known.contains(v)) {
                return v;
            }
        }
        return 107;
    }

    private int[] pattern(int relation) {
        int[] x = rowThatIs(relation);
        for (int i = 0; i < columns(relation); i++) {
            if (chance(45)) {
                x[i] = -1;
            }
        }
        return x;
    }

    private void ask(int times) {
        for (int i = 0; i < times; i++) {
            int r = anyRelation();
            int[] x = rowThatIs(r);
            int[] p = pattern(r);
            switch (below(18)) {
                case 0: call(COUNT, r); break;
                case 1: call(ROW_AT, r, below(6) - 1); break;
                case 2: call(HOLDS, r, x[0], x[1], x[2]); break;
                case 3: call(HOLDS_ANEW, r, x[0], x[1], x[2]); break;
                case 4: call(ANSWERS, r, p[0], p[1], p[2]); break;
                case 5: case 6: call(GOALS, r, p[0], p[1], p[2]); break;
                case 7: case 8: call(WAYS, r, x[0], x[1], x[2]); break;
                case 9: call(HEIGHT, r, x[0], x[1], x[2]); break;
                case 10: call(PRICE, r, x[0], x[1], x[2]); break;
                case 11: call(NEEDS, r, x[0], x[1], x[2]); break;
                case 12: case 13: askReaches(); break;
                case 14: call(BINDINGS, chance(95) ? anyRule() : below(20) - 2); break;
                case 15: askRepair(); break;
                case 16: call(LAYER, r); call(NOW); call(FACTS); call(RULES); break;
                default: if (chance(20)) { dump(); } break;
            }
        }
    }

    private void askReaches() {
        int number = anyRule();
        for (MillOracle.Rule rule : oracle.rules) {
            if (rule.number == number && rule.kind != 3) {
                int[] x = rowThatIs(rule.relation);
                call(REACHES, number, x[0], x[1], x[2]);
                return;
            }
        }
        call(REACHES, number, below(3), 0, 0);
    }

    /** Every row, and what can be asked of it. */
    private void dump() {
        for (int r = 0; r < oracle.relations.size(); r++) {
            int n = call(COUNT, r);
            for (int place = 0; place <= n; place++) {
                call(ROW_AT, r, place);
            }
            call(LAYER, r);
            int[] x = rowThatIs(r);
            call(HEIGHT, r, x[0], x[1], x[2]);
            call(PRICE, r, x[0], x[1], x[2]);
            call(WAYS, r, x[0], x[1], x[2]);
        }
    }

    /** Calls whose arguments are anything. */
    private void wild() {
        int name = below(LENGTHS.length);
        int[] x = new int[6];
        for (int i = 0; i < x.length; i++) {
            int dice = below(100);
            x[i] = dice < 40 ? below(8) - 1 : dice < 60 ? 0 : dice < 80 ? 95 + below(16) : dice < 95 ? below(100)
                    : random.nextInt();
        }
        int[] y = new int[LENGTHS[name]];
        System.arraycopy(x, 0, y, 0, y.length);
        call(name, y);
    }
}
