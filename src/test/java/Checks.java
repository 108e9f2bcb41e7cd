import java.util.Arrays;

/** What the tests share: names for terms, calls in short, checks, and a few worlds to begin with. */
abstract class Checks {
    static final int X = 100, Y = 101, Z = 102, V = 103, W = 104, U = 105, LAST = 107;
    static final int NONE = DatalogMill.NONE, ANY = DatalogMill.ANY;
    static final int PLAIN = DatalogMill.PLAIN, LEAST = DatalogMill.LEAST, GREATEST = DatalogMill.GREATEST;
    static final int FOLLOWS = DatalogMill.FOLLOWS, COUNTS = DatalogMill.COUNTS;
    static final int SUMS = DatalogMill.SUMS, NEVER = DatalogMill.NEVER;
    static final int SAME = DatalogMill.SAME, UNLIKE = DatalogMill.UNLIKE;
    static final int LESS = DatalogMill.LESS, AT_MOST = DatalogMill.AT_MOST;
    static final int PLUS = DatalogMill.PLUS, MINUS = DatalogMill.MINUS, TIMES = DatalogMill.TIMES;
    static final int LESSER = DatalogMill.LESSER, GREATER = DatalogMill.GREATER, REST = DatalogMill.REST;
    static final int UNSAFE = DatalogMill.UNSAFE, LAYERLESS = DatalogMill.LAYERLESS;
    static final int SHRINKING = DatalogMill.SHRINKING, TOO_MUCH = DatalogMill.TOO_MUCH;
    static final int INDEX = 1, ARGUMENT = 2, STATE = 3;
    static final int MIN = Integer.MIN_VALUE, MAX = Integer.MAX_VALUE;

    static int wrong = 0;
    static int checks = 0;
    /** What is tested now, to be told if it is not as due. */
    static String place = "";

    interface Call {
        void make();
    }

    /** A call on a world. */
    interface On {
        void make(DatalogMill m);
    }

    // ---- checks

    static void due(String call, long got, long want) {
        checks++;
        if (got != want) {
            wrong++;
            System.out.println(place + ": " + call + " answered " + got + ", due is " + want);
        }
    }

    static void due(String call, boolean got, boolean want) {
        due(call, got ? 1 : 0, want ? 1 : 0);
    }

    static void due(String call, String got, String want) {
        checks++;
        if (!got.equals(want)) {
            wrong++;
            System.out.println(place + ": " + call + " is\n  " + got + ", due is\n  " + want);
        }
    }

    /** 1 IndexOutOfBoundsException, 2 IllegalArgumentException, 3 IllegalStateException, 0 nothing, -1 another one. */
    static int thrown(Call call) {
        try {
            call.make();
        } catch (RuntimeException e) {
            Class<?> type = e.getClass();
            return type == IndexOutOfBoundsException.class ? INDEX : type == IllegalArgumentException.class ? ARGUMENT
                    : type == IllegalStateException.class ? STATE : -1;
        }
        return 0;
    }

    static void refused(String what, int want, Call call) {
        due(what + " throws (1 IndexOutOfBounds, 2 IllegalArgument, 3 IllegalState, 0 nothing)", thrown(call), want);
    }

    static void dueRows(DatalogMill m, int relation, int... want) {
        due("rows of " + relation, Arrays.toString(allRows(m, relation)), Arrays.toString(want));
    }

    static int[] allRows(DatalogMill m, int relation) {
        int[] rows = new int[m.count(relation)];
        for (int i = 0; i < rows.length; i++) {
            rows[i] = m.rowAt(relation, i);
        }
        return rows;
    }

    /** Tells how many checks there were, and ends the program with 1 if one was not as due. */
    static void end() {
        System.out.println(checks + " checks, " + wrong + " not as due");
        if (wrong != 0) {
            System.exit(1);
        }
    }

    /** All that can be asked about what there is, but for the draft. */
    static String stateOf(DatalogMill m) {
        StringBuilder s = new StringBuilder();
        s.append("now ").append(m.now()).append(", facts ").append(m.facts()).append(", came ").append(m.came());
        s.append(", went ").append(m.went()).append(", rules ").append(m.rules()).append(", repair ").append(m.repair());
        for (int i = 0; i < m.repair(); i++) {
            s.append(" ").append(m.repairAt(i));
        }
        for (int number = 0; number < 14; number++) {
            int n = number;
            s.append(thrown(() -> m.bindings(n)) == 0 ? ", rule " + n + " binds " + m.bindings(n) : "");
        }
        for (int relation = 0; relation < 6; relation++) {
            int r = relation;
            if (thrown(() -> m.count(r)) == 0) {
                s.append(", relation ").append(r).append(" in layer ").append(m.layer(r)).append(":");
                for (int row : allRows(m, r)) {
                    int a = row / 10000;
                    int b = row / 100 % 100;
                    int c = row % 100;
                    s.append(" ").append(row).append("/").append(m.ways(r, a, b, c)).append("/");
                    s.append(m.height(r, a, b, c)).append("/").append(m.price(r, a, b, c)).append("/");
                    s.append(m.needs(r, a, b, c));
                }
            }
        }
        return s.toString();
    }

    // ---- calls in short

    static void fact(DatalogMill m, int relation, int... row) {
        m.fact(relation, row[0], row.length > 1 ? row[1] : 0, row.length > 2 ? row[2] : 0, 1, NONE);
    }

    static void rule(DatalogMill m, int kind, int relation, int... head) {
        int n = head.length;
        m.rule(kind, relation, n > 0 ? head[0] : 0, n > 1 ? head[1] : 0, n > 2 ? head[2] : 0);
    }

    static void never(DatalogMill m) {
        m.rule(NEVER, NONE, 0, 0, 0);
    }

    static void atom(DatalogMill m, int relation, int... terms) {
        m.atom(relation, false, terms[0], terms.length > 1 ? terms[1] : 0, terms.length > 2 ? terms[2] : 0);
    }

    static void not(DatalogMill m, int relation, int... terms) {
        m.atom(relation, true, terms[0], terms.length > 1 ? terms[1] : 0, terms.length > 2 ? terms[2] : 0);
    }

    /** Adds a rule that has no atoms and always holds, for a row that follows then. */
    static int always(DatalogMill m, int relation, int... row) {
        rule(m, FOLLOWS, relation, row);
        m.compare(SAME, 1, 1);
        return m.add();
    }

    /** What a FOLLOWS rule with such a head of one term is answered by add, or 0 if it is added; it is dropped again. */
    static int tried(DatalogMill m, int relation, int head, On... literals) {
        rule(m, FOLLOWS, relation, head);
        return triedDraft(m, literals);
    }

    /** The same with a head of two terms. */
    static int triedPair(DatalogMill m, int relation, int a, int b, On... literals) {
        rule(m, FOLLOWS, relation, a, b);
        return triedDraft(m, literals);
    }

    private static int triedDraft(DatalogMill m, On... literals) {
        for (On literal : literals) {
            literal.make(m);
        }
        int answered = m.add();
        if (answered >= 0) {
            m.drop(answered);
        }
        return Math.min(0, answered);
    }

    // ---- worlds

    /** Relations with the columns of the digits, all PLAIN. */
    static DatalogMill plain(int... columns) {
        DatalogMill m = new DatalogMill();
        for (int c : columns) {
            m.relation(c, PLAIN);
        }
        return m;
    }

    /** edge 0, path 1 with the two rules of its closure, 0 and 1, and 2 with one column. */
    static DatalogMill paths() {
        DatalogMill m = plain(2, 2, 1);
        rule(m, FOLLOWS, 1, X, Y);
        atom(m, 0, X, Y);
        due("add", m.add(), 0);
        rule(m, FOLLOWS, 1, X, Z);
        atom(m, 1, X, Y);
        atom(m, 0, Y, Z);
        due("add", m.add(), 1);
        return m;
    }

    /** In relation 2 (two columns) pairs of the rows of 0, unless 1 has a row: six rows are too much. */
    static DatalogMill brink() {
        DatalogMill m = plain(1, 1, 2);
        for (int i = 0; i < 6; i++) {
            fact(m, 0, i);
        }
        fact(m, 1, 7);
        rule(m, FOLLOWS, 2, X, Y);
        atom(m, 0, X);
        atom(m, 0, Y);
        not(m, 1, ANY);
        due("add", m.add(), 0);
        return m;
    }

    /** Relations: 0 edge (3), 1 LEAST (2), 2 GREATEST (2), 3 PLAIN (2), 4 LEAST (1), 5 PLAIN (1). */
    static DatalogMill valued() {
        DatalogMill m = new DatalogMill();
        m.relation(3, PLAIN);
        m.relation(2, LEAST);
        m.relation(2, GREATEST);
        m.relation(2, PLAIN);
        m.relation(1, LEAST);
        m.relation(1, PLAIN);
        return m;
    }

    /** The world with one fact of each of these rows, in relation 0. */
    static DatalogMill with(DatalogMill m, int... rows) {
        for (int n : rows) {
            fact(m, 0, n);
        }
        return m;
    }

    /** So many rows in relations 0 and 1; 2 to 4 have three columns and are of each kind. */
    static DatalogMill grouped(int first, int second) {
        DatalogMill m = plain(1, 1);
        for (int kind = PLAIN; kind <= GREATEST; kind++) {
            m.relation(3, kind);
        }
        for (int i = 0; i < first; i++) {
            fact(m, 0, i);
        }
        for (int i = 0; i < second; i++) {
            fact(m, 1, i);
        }
        return m;
    }
}
