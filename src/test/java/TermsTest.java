import java.util.Arrays;

/** A test of its own for each sentence of the document's terms, and for how many calls an object is used. */
public final class TermsTest extends Sentences {
    /** A call on a world that has just been made. */
    private interface On {
        void make(DatalogMill m);
    }

    private interface World {
        DatalogMill make();
    }

    public static void main(String[] arguments) {
        calls512();
        section("Terms");
        order();
        relationsAndRows();
        facts();
        rulesAndTerms();
        literals();
        bindings();
        groups();
        circles();
        layers();
        rowsLayerByLayer();
        growing();
        unsafe();
        layerless();
        shrinking();
        fallingAndRising();
        tooMuch();
        ways();
        heights();
        againAndAgain();
        prices();
        goals();
        goalsByNumbers();
        exceptions();
        nothingChanges();
        constants();
        endOfSentences();
    }

    // ---- what it is

    private static void calls512() {
        section("What it is");
        isFree("A deductive database");
        says("An object is used for at most 512 calls after it has been made", () -> {
            DatalogMill m = plain(1);
            int calls = 1;
            for (int i = 0; calls + 4 <= 508; i++) {
                rule(m, FOLLOWS, 0, i % 100);
                m.compare(SAME, 1, 1);
                due("add", m.add(), i);
                m.drop(i);
                calls += 4;
            }
            due("pass", m.pass(100), 0);
            due("now", m.now(), 100);
            calls += 2;
            while (calls < 510) {
                due("facts", m.facts(), 0);
                calls++;
            }
            due("the 511th call", m.fact(0, 7, 0, 0, 1, 101), 1);
            due("the 512th call", m.holds(0, 7, 0, 0), true);
            DatalogMill timed = plain(1);
            timed.fact(0, 1, 0, 0, 1, 50_900);
            for (int i = 3; i <= 510; i++) {
                due("pass", timed.pass(100), 0);
            }
            due("the 511th call: at 50900 the fact ends", timed.pass(100), 1);
            due("the 512th call", timed.now(), 50_900);
        });
    }

    /** The world with one fact of each of these rows, in relation 0. */
    private static DatalogMill with(DatalogMill m, int... rows) {
        for (int n : rows) {
            fact(m, 0, n);
        }
        return m;
    }

    // ---- relations, rows, facts

    private static void order() {
        says("The rows are always those that follow from the facts and rules of now, whatever came in which order.", () -> {
            int[][] orders = {{0, 1, 2, 3, 4}, {4, 3, 2, 1, 0}, {2, 0, 4, 1, 3}, {3, 4, 0, 2, 1}};
            for (int[] all : orders) {
                DatalogMill m = valued();
                for (int step : all) {
                    tell(m, step);
                }
                dueRows(m, 1, 10300, 20100, 30400);
                dueRows(m, 3, 20100, 30400);
                fact(m, 0, 3, 1, 0);
                dueRows(m, 1, 10300, 20100, 30400);
                m.takeBack(0, 3, 1, 0);
                m.takeBack(0, 1, 2, 0);
                dueRows(m, 1, 10300, 20100, 30400);
                fact(m, 0, 1, 2, 0);
                dueRows(m, 1, 10300, 20100, 30400);
                m.takeBack(1, 2, 1, 0);
                dueRows(m, 1, 10300, 20300, 30600);
                dueRows(m, 3, 30600);
            }
        });
    }

    /** Facts of 0 and 1, and two rules: 1(Y, V + Z) of 1(X, V) and 0(X, Y, Z), and 3(X, V) of 1(X, V) unless 0(1, X, 0). */
    private static void tell(DatalogMill m, int step) {
        switch (step) {
            case 0: fact(m, 0, 1, 2, 0); fact(m, 0, 2, 3, 3); break;
            case 1: fact(m, 1, 1, 3); break;
            case 2: fact(m, 1, 2, 1); break;
            case 3:
                rule(m, FOLLOWS, 1, Y, W);
                atom(m, 1, X, V);
                atom(m, 0, X, Y, Z);
                m.reckon(W, PLUS, V, Z);
                m.add();
                break;
            default:
                rule(m, FOLLOWS, 3, X, V);
                atom(m, 1, X, V);
                m.compare(UNLIKE, V, 3);
                m.add();
                break;
        }
    }

    private static void relationsAndRows() {
        isFree("Relations, rows, facts");
        says("There can be 6 relations, numbered from 0.", () -> {
            DatalogMill m = new DatalogMill();
            for (int i = 0; i < 6; i++) {
                due("relation", m.relation(1, PLAIN), i);
            }
            refused("a seventh", STATE, () -> m.relation(1, PLAIN));
            for (int i = 0; i < 6; i++) {
                fact(m, i, 10 + i);
                dueRows(m, i, 10000 * (10 + i));
            }
        });
        says("A relation has 1 to 3 columns, and a kind: PLAIN, LEAST or GREATEST.", () -> {
            for (int columns = 0; columns <= 4; columns++) {
                for (int kind = -1; kind <= 3; kind++) {
                    int c = columns;
                    int k = kind;
                    boolean isGood = c >= 1 && c <= 3 && k >= 0 && k <= 2;
                    refused(c + " columns, kind " + k, isGood ? 0 : ARGUMENT, () -> new DatalogMill().relation(c, k));
                }
            }
        });
        says("A row has a number from 0 to 99 for each column.", () -> {
            for (int n = -2; n <= 101; n++) {
                int number = n;
                boolean isGood = n >= 0 && n <= 99;
                refused("row " + n, isGood ? 0 : ARGUMENT, () -> fact(plain(1), 0, number));
                refused("b of a row " + n, isGood ? 0 : ARGUMENT, () -> fact(plain(2), 0, 1, number));
                refused("c of a row " + n, isGood ? 0 : ARGUMENT, () -> fact(plain(3), 0, 1, 1, number));
            }
            DatalogMill m = plain(3);
            fact(m, 0, 99, 0, 99);
            fact(m, 0, 0, 99, 0);
            dueRows(m, 0, 9900, 990099);
        });
        says("Of a relation that is LEAST or GREATEST the last column is the value, the columns ahead of it are the key",
                () -> {
            for (int kind = LEAST; kind <= GREATEST; kind++) {
                DatalogMill m = new DatalogMill();
                m.relation(3, kind);
                fact(m, 0, 1, 2, 5);
                fact(m, 0, 2, 1, 5);
                fact(m, 0, 1, 3, 5);
                fact(m, 0, 1, 2, 6);
                fact(m, 0, 1, 2, 4);
                dueRows(m, 0, kind == LEAST ? 10204 : 10206, 10305, 20105);
                m.relation(2, kind);
                fact(m, 1, 1, 50);
                fact(m, 1, 2, 50);
                fact(m, 1, 1, 49);
                dueRows(m, 1, kind == LEAST ? 14900 : 15000, 25000);
            }
        });
        says("it has one row at most for each key", () -> {
            for (int kind = LEAST; kind <= GREATEST; kind++) {
                DatalogMill m = new DatalogMill();
                m.relation(1, kind);
                due("no facts", m.count(0), 0);
                for (int n : new int[] {50, 0, 99, 51, 1}) {
                    fact(m, 0, n);
                    due("one column: no key, one row", m.count(0), 1);
                }
                dueRows(m, 0, kind == LEAST ? 0 : 990000);
                always(m, 0, 99);
                always(m, 0, 0);
                due("and by rules", m.count(0), 1);
            }
        });
        says("those behind the columns of the relation have to be 0", () -> {
            refused("1 column", 0, () -> plain(1).holds(0, 5, 0, 0));
            refused("1 column, b", ARGUMENT, () -> plain(1).holds(0, 5, 1, 0));
            refused("1 column, c", ARGUMENT, () -> plain(1).holds(0, 5, 0, 1));
            refused("2 columns", 0, () -> plain(2).holds(0, 5, 5, 0));
            refused("2 columns, c", ARGUMENT, () -> plain(2).holds(0, 5, 5, 1));
            refused("3 columns", 0, () -> plain(3).holds(0, 5, 5, 5));
        });
        says("Rows are ordered by a, then by b, then by c.", () -> {
            DatalogMill m = plain(3);
            int[][] rows = {{1, 0, 0}, {0, 99, 99}, {0, 0, 2}, {0, 0, 10}, {0, 2, 0}, {0, 10, 0}, {10, 0, 0}, {2, 0, 1}};
            for (int[] row : rows) {
                fact(m, 0, row);
            }
            dueRows(m, 0, 2, 10, 200, 1000, 9999, 10000, 20001, 100000);
        });
    }

    private static void facts() {
        says("There can be 24 facts at one time.", () -> {
            DatalogMill m = plain(1, 1);
            for (int i = 0; i < 24; i++) {
                due("fact", m.fact(i % 2, i / 2, 0, 0, 1, i == 7 ? 5 : NONE), i + 1);
            }
            refused("a 25th", STATE, () -> fact(m, 0, 90));
            m.pass(5);
            due("at another time", m.fact(0, 90, 0, 0, 1, NONE), 24);
            refused("a 25th", STATE, () -> fact(m, 0, 91));
            m.takeBack(0, 90, 0, 0);
            due("at another time", m.fact(0, 91, 0, 0, 1, NONE), 24);
        });
        says("A fact is a row of a relation, and has a price, 1 to 99, and an end, which is a time, or none.", () -> {
            for (int price = 0; price <= 100; price++) {
                int p = price;
                DatalogMill m = plain(1);
                boolean isGood = p >= 1 && p <= 99;
                refused("price " + p, isGood ? 0 : ARGUMENT, () -> m.fact(0, 5, 0, 0, p, NONE));
                due("the price", m.price(0, 5, 0, 0), isGood ? p : NONE);
            }
            for (int end : new int[] {-2, -1, 0, 1, 2, 100}) {
                refused("end " + end, end > 0 || end == NONE ? 0 : ARGUMENT, () -> plain(1).fact(0, 5, 0, 0, 1, end));
            }
        });
        says("Facts with the same key and unlike values can be told of a relation that is LEAST or GREATEST.", () -> {
            DatalogMill m = valued();
            for (int n : new int[] {5, 7, 3, 6}) {
                fact(m, 1, 1, n);
                fact(m, 2, 1, n);
            }
            due("facts", m.facts(), 8);
            dueRows(m, 1, 10300);
            dueRows(m, 2, 10700);
            refused("the same value", STATE, () -> fact(m, 1, 1, 6));
            m.takeBack(1, 1, 3, 0);
            m.takeBack(2, 1, 7, 0);
            dueRows(m, 1, 10500);
            dueRows(m, 2, 10600);
            m.takeBack(1, 1, 7, 0);
            dueRows(m, 1, 10500);
        });
        says("The time is 0 at first; when it becomes the end of a fact, that is gone.", () -> {
            DatalogMill m = plain(1);
            due("now", m.now(), 0);
            m.fact(0, 1, 0, 0, 1, 3);
            m.fact(0, 2, 0, 0, 1, 4);
            due("at 2", m.pass(2), 0);
            dueRows(m, 0, 10000, 20000);
            due("at 3", m.pass(1), 1);
            dueRows(m, 0, 20000);
            due("facts", m.facts(), 1);
            due("past 4", m.pass(50), 1);
            due("facts", m.facts(), 0);
            DatalogMill v = valued();
            v.fact(1, 1, 5, 0, 1, 1);
            v.fact(1, 1, 9, 0, 1, NONE);
            v.pass(1);
            dueRows(v, 1, 10900);
            endsNotEarlier();
        });
    }

    /** A fact that ends at the next step is there yet, whatever is changed or asked. */
    private static void endsNotEarlier() {
        DatalogMill m = plain(1);
        m.pass(4);
        m.fact(0, 1, 0, 0, 1, 5);
        fact(m, 0, 2);
        dueRows(m, 0, 10000, 20000);
        due("holdsAnew", m.holdsAnew(0, 1, 0, 0), true);
        always(m, 0, 3);
        dueRows(m, 0, 10000, 20000, 30000);
        m.takeBack(0, 2, 0, 0);
        dueRows(m, 0, 10000, 30000);
        m.drop(0);
        dueRows(m, 0, 10000);
        fact(m, 0, 4);
        rule(m, FOLLOWS, 0, 5);
        atom(m, 0, ANY);
        m.add();
        due("either of two is enough", m.needs(0, 5, 0, 0), 0);
        never(m);
        atom(m, 0, 4);
        atom(m, 0, 1);
        m.add();
        due("either of two is given up", m.repair(), 1);
        due("the first one", m.repairAt(0), 0);
        never(m);
        not(m, 0, 1);
        m.add();
        due("the first one may not go", m.repairAt(0), 1);
        m.pass(1);
        dueRows(m, 0, 40000, 50000);
        due("now it is gone", m.repair(), NONE);
    }

    // ---- rules

    private static void rulesAndTerms() {
        says("There can be 10 rules at one time; rules are numbered from 0 as they are added, and a number is not used anew.",
                () -> {
            DatalogMill m = plain(1);
            for (int i = 0; i < 10; i++) {
                due("add", always(m, 0, i), i);
            }
            refused("an eleventh", STATE, () -> always(m, 0, 10));
            m.drop(9);
            due("the number of the last one is not used anew", always(m, 0, 10), 10);
            m.drop(0);
            due("nor that of the first one", always(m, 0, 11), 11);
            m.drop(11);
            rule(m, FOLLOWS, 0, X);
            m.compare(SAME, 1, 1);
            due("refused", m.add(), UNSAFE);
            due("what is refused gets none", always(m, 0, 12), 12);
        });
        says("A rule has a kind, FOLLOWS, COUNTS, SUMS or NEVER, a head, but for NEVER", () -> {
            for (int kind = -1; kind <= 4; kind++) {
                int k = kind;
                refused("kind " + k + " with a head", k == NEVER ? INDEX : k < 0 || k > 3 ? ARGUMENT : 0,
                        () -> plain(1).rule(k, 0, 0, 0, 0));
                refused("kind " + k + " without", k == NEVER ? 0 : k < 0 || k > 3 ? ARGUMENT : INDEX,
                        () -> plain(1).rule(k, NONE, 0, 0, 0));
            }
        });
        says("and a body of 1 to 4 literals, of which at most 3 are atoms.", () -> {
            for (int atoms = 0; atoms <= 4; atoms++) {
                for (int others = 0; atoms + others <= 5; others++) {
                    int n = atoms;
                    int k = others;
                    boolean isTooLong = n > 3 || n + k > 4;
                    refused(n + " atoms, " + k + " others", isTooLong || n + k == 0 ? STATE : 0, () -> {
                        DatalogMill m = plain(1);
                        never(m);
                        for (int i = 0; i < k; i++) {
                            m.compare(SAME, 1, 1);
                        }
                        for (int i = 0; i < n; i++) {
                            m.atom(0, i % 2 == 1, 5, 0, 0);
                        }
                        m.add();
                    });
                }
            }
        });
        says("a body of 1 to 4 literals", () -> {
            for (int last = 0; last < 4; last++) {
                DatalogMill m = with(plain(1, 1, 1), 3, 4);
                fact(m, 1, 4);
                for (int kind = FOLLOWS; kind <= SUMS; kind++) {
                    rule(m, kind, 2, kind == FOLLOWS ? Z : kind == COUNTS ? 0 : 50);
                    for (int i = 0; i < 4; i++) {
                        if (i == last) {
                            atom(m, 0, Z);
                        } else if (i == 3 - last) {
                            not(m, 1, 3);
                        } else if (i == (last + 1) % 4 || i == (last + 3) % 4) {
                            atom(m, 0, ANY);
                        } else {
                            m.compare(SAME, 1, 1);
                        }
                    }
                    due("add", m.add(), kind);
                    due("bindings", m.bindings(kind), 2);
                }
                dueRows(m, 2, 20000, 30000, 40000, 990000);
                due("ways", m.ways(2, 4, 0, 0), 1);
                due("height", m.height(2, 3, 0, 0), 1);
                due("price of 2 atoms", m.price(2, 3, 0, 0), 3);
                due("reaches", m.reaches(0, 4, 0, 0), 4);
            }
        });
        says("A term is a number from 0 to 99; a variable, which is told as 100 to 107; or ANY, in atoms alone.", () -> {
            for (int term = -3; term <= 110; term++) {
                int t = term;
                boolean isTerm = t >= 0 && t <= 107;
                refused("in an atom " + t, isTerm || t == ANY ? 0 : ARGUMENT, () -> drafted().atom(0, false, t, 0, 0));
                refused("in a negated atom " + t, isTerm || t == ANY ? 0 : ARGUMENT, () -> drafted().atom(0, true, t, 0, 0));
                refused("left in a comparison " + t, isTerm ? 0 : ARGUMENT, () -> drafted().compare(SAME, t, 0));
                refused("right in a comparison " + t, isTerm ? 0 : ARGUMENT, () -> drafted().compare(SAME, 0, t));
                refused("left in a reckoning " + t, isTerm ? 0 : ARGUMENT, () -> drafted().reckon(X, PLUS, t, 0));
                refused("right in a reckoning " + t, isTerm ? 0 : ARGUMENT, () -> drafted().reckon(X, PLUS, 0, t));
                refused("made by a reckoning " + t, isTerm && t >= 100 ? 0 : ARGUMENT, () -> drafted().reckon(t, PLUS, 0, 0));
                refused("in a head " + t, isTerm ? 0 : ARGUMENT, () -> plain(1).rule(FOLLOWS, 0, t, 0, 0));
            }
        });
        says("a variable, which is told as 100 to 107", () -> {
            for (int v = X; v <= LAST; v++) {
                for (int w = X; w <= LAST; w++) {
                    if (v != w) {
                        dueVariables(v, w);
                    }
                }
            }
        });
        says("The head has a relation, and a term for each of its columns, none of them ANY.", () -> {
            for (int columns = 1; columns <= 3; columns++) {
                for (int behind = 1; behind <= 3; behind++) {
                    int[] head = {7, behind > 1 ? 7 : 0, behind > 2 ? 7 : 0};
                    int c = columns;
                    int due = behind <= columns ? 0 : ARGUMENT;
                    refused(behind + " terms for " + c, due, () -> plain(c).rule(FOLLOWS, 0, head[0], head[1], head[2]));
                    head[behind - 1] = ANY;
                    refused("ANY as term " + behind, ARGUMENT, () -> plain(c).rule(SUMS, 0, head[0], head[1], head[2]));
                }
            }
        });
    }

    /** Two variables in each place where one can stand. */
    private static void dueVariables(int v, int w) {
        DatalogMill m = plain(2, 2, 1);
        fact(m, 0, 3, 4);
        fact(m, 0, 5, 7);
        rule(m, FOLLOWS, 1, w, v);
        atom(m, 0, v, ANY);
        m.reckon(w, PLUS, v, v);
        m.compare(LESS, w, 10);
        not(m, 0, v, w);
        due("add", m.add(), 0);
        dueRows(m, 1, 60300);
        rule(m, FOLLOWS, 1, v, w);
        atom(m, 0, v, w);
        m.compare(AT_MOST, w, 6);
        due("add", m.add(), 1);
        dueRows(m, 1, 30400, 60300);
        rule(m, SUMS, 2, w);
        atom(m, 0, v, w);
        due("add", m.add(), 2);
        dueRows(m, 2, 110000);
        due("goals: 1(6, 3), 0(3, ANY), 0(3, 6), 0(6, 3)", m.goals(1, 6, 3, 0), 4);
        due("reaches", m.reaches(0, 10, 5, 0), 2);
        due("reaches", m.reaches(1, 5, 7, 0), 1);
        due("ways", m.ways(1, 6, 3, 0), 1);
        due("bindings", m.bindings(1), 1);
    }

    private static DatalogMill drafted() {
        DatalogMill m = plain(1);
        never(m);
        return m;
    }

    /** How many bindings a NEVER rule has that is made of these literals. */
    private static int boundBy(DatalogMill m, On... literals) {
        never(m);
        for (On literal : literals) {
            literal.make(m);
        }
        int number = m.add();
        int bound = m.bindings(number);
        m.drop(number);
        return bound;
    }

    private static int made(int reckoning, int left, int right) {
        DatalogMill m = plain(1);
        rule(m, FOLLOWS, 0, X);
        m.reckon(X, reckoning, left, right);
        due("add", m.add(), 0);
        return m.rowAt(0, 0) / 10000;
    }

    private static void literals() {
        isFree("A literal is one of these:");
        says("- an atom: a relation, a term for each of its columns, and whether it is negated;", () -> {
            DatalogMill m = plain(3, 1);
            fact(m, 0, 1, 2, 3);
            fact(m, 0, 1, 2, 4);
            fact(m, 1, 1);
            due("of relation 0", boundBy(m, x -> atom(x, 0, 1, 2, 3)), 1);
            due("of relation 1", boundBy(m, x -> atom(x, 1, 2)), 0);
            due("a", boundBy(m, x -> atom(x, 0, 0, 2, 3)), 0);
            due("b", boundBy(m, x -> atom(x, 0, 1, 3, 3)), 0);
            due("c", boundBy(m, x -> atom(x, 0, 1, 2, 5)), 0);
            due("negated", boundBy(m, x -> not(x, 0, 1, 2, 5)), 1);
            due("negated", boundBy(m, x -> not(x, 0, 1, 2, 4)), 0);
        });
        says("- a comparison of two terms: SAME, UNLIKE, LESS, or AT_MOST;", () -> {
            int[] numbers = {0, 1, 49, 50, 98, 99};
            for (int x : numbers) {
                for (int y : numbers) {
                    due(x + " SAME " + y, boundBy(plain(1), m -> m.compare(SAME, x, y)), x == y ? 1 : 0);
                    due(x + " UNLIKE " + y, boundBy(plain(1), m -> m.compare(UNLIKE, x, y)), x != y ? 1 : 0);
                    due(x + " LESS " + y, boundBy(plain(1), m -> m.compare(LESS, x, y)), x < y ? 1 : 0);
                    due(x + " AT_MOST " + y, boundBy(plain(1), m -> m.compare(AT_MOST, x, y)), x <= y ? 1 : 0);
                }
            }
        });
        says("- a reckoning: a variable, and two terms of which one of these is made", () -> {
            due("PLUS", made(PLUS, 17, 5), 22);
            due("MINUS", made(MINUS, 17, 5), 12);
            due("TIMES", made(TIMES, 17, 5), 85);
            due("LESSER", made(LESSER, 17, 5), 5);
            due("LESSER", made(LESSER, 5, 17), 5);
            due("GREATER", made(GREATER, 17, 5), 17);
            due("GREATER", made(GREATER, 5, 17), 17);
            due("REST", made(REST, 17, 5), 2);
            due("REST", made(REST, 5, 17), 5);
            due("REST", made(REST, 15, 5), 0);
            due("REST", made(REST, 99, 1), 0);
        });
        says("What is below 0 becomes 0", () -> {
            due("5 - 4", made(MINUS, 5, 4), 1);
            due("5 - 5", made(MINUS, 5, 5), 0);
            due("5 - 6", made(MINUS, 5, 6), 0);
            due("0 - 99", made(MINUS, 0, 99), 0);
        });
        says("what is above 99 becomes 99", () -> {
            due("98 + 0", made(PLUS, 98, 0), 98);
            due("98 + 1", made(PLUS, 98, 1), 99);
            due("98 + 2", made(PLUS, 98, 2), 99);
            due("99 + 99", made(PLUS, 99, 99), 99);
            due("14 * 7", made(TIMES, 14, 7), 98);
            due("11 * 9", made(TIMES, 11, 9), 99);
            due("10 * 10", made(TIMES, 10, 10), 99);
            due("99 * 99", made(TIMES, 99, 99), 99);
        });
        says("the rest of a division by 0 is 0.", () -> {
            for (int n : new int[] {0, 1, 99}) {
                due(n + " by 0", made(REST, n, 0), 0);
            }
            due("0 by 7", made(REST, 0, 7), 0);
        });
    }

    private static void bindings() {
        says("A binding of a rule gives each variable of its body a number, so that each literal holds", () -> {
            DatalogMill m = plain(2, 1);
            fact(m, 0, 1, 5);
            fact(m, 0, 1, 6);
            fact(m, 0, 2, 6);
            fact(m, 1, 6);
            due("X and Y", boundBy(m, x -> atom(x, 0, X, Y)), 3);
            due("X alone: 1 and 2", boundBy(m, x -> atom(x, 0, X, ANY)), 2);
            due("no variable", boundBy(m, x -> atom(x, 0, ANY, ANY)), 1);
            due("both literals", boundBy(m, x -> atom(x, 0, X, Y), x -> atom(x, 1, Y)), 2);
            due("what is made is of no choice", boundBy(m, x -> atom(x, 1, Y), x -> x.reckon(X, PLUS, Y, 1)), 1);
        });
        says("if its relation has a row that fits, which is one that has for each term that is a number, or a variable "
                + "with this number, the same number in its column", () -> {
            DatalogMill m = plain(3);
            fact(m, 0, 4, 4, 5);
            fact(m, 0, 4, 5, 5);
            fact(m, 0, 5, 5, 5);
            due("one variable twice", boundBy(m, x -> atom(x, 0, X, X, Y)), 2);
            due("one variable thrice", boundBy(m, x -> atom(x, 0, X, X, X)), 1);
            due("a number", boundBy(m, x -> atom(x, 0, 4, X, Y)), 2);
            due("what is known", boundBy(m, x -> x.reckon(X, PLUS, 2, 2), x -> atom(x, 0, X, X, Y)), 1);
            due("what is known, elsewhere", boundBy(m, x -> x.reckon(X, PLUS, 2, 2), x -> atom(x, 0, Y, Z, X)), 0);
        });
        says("(whatever it has for ANY)", () -> {
            DatalogMill m = plain(3);
            fact(m, 0, 4, 0, 5);
            fact(m, 0, 4, 99, 5);
            fact(m, 0, 4, 7, 6);
            due("in the middle", boundBy(m, x -> atom(x, 0, X, ANY, Y)), 2);
            due("first and last", boundBy(m, x -> atom(x, 0, ANY, X, ANY)), 3);
            due("first and in the middle", boundBy(m, x -> atom(x, 0, ANY, ANY, 5)), 1);
            due("first", boundBy(m, x -> atom(x, 0, ANY, X, Y)), 3);
            fact(m, 0, 3, 0, 5);
            fact(m, 0, 3, 1, 5);
            fact(m, 0, 4, 0, 6);
            due("in the middle", boundBy(m, x -> atom(x, 0, X, ANY, Y)), 3);
            due("last", boundBy(m, x -> atom(x, 0, X, Y, ANY)), 5);
            due("first", boundBy(m, x -> atom(x, 0, ANY, X, Y)), 5);
            due("in the middle and last", boundBy(m, x -> atom(x, 0, X, ANY, ANY)), 2);
            due("negated, with one", boundBy(m, x -> not(x, 0, ANY, 99, ANY)), 0);
            due("negated, with none", boundBy(m, x -> not(x, 0, ANY, 98, ANY)), 1);
        });
        says("a negated atom, if its relation has no row that fits", () -> {
            DatalogMill m = plain(1, 1);
            due("of no rows", boundBy(m, x -> not(x, 1, ANY)), 1);
            fact(m, 0, 4);
            fact(m, 0, 5);
            fact(m, 1, 5);
            due("of some", boundBy(m, x -> not(x, 1, ANY)), 0);
            due("4, not 5", boundBy(m, x -> atom(x, 0, X), x -> not(x, 1, X)), 1);
            due("neither", boundBy(m, x -> atom(x, 0, X), x -> not(x, 0, X)), 0);
        });
        says("a comparison, if it is so", () -> {
            DatalogMill m = with(plain(1), 4, 5, 6);
            due("SAME", boundBy(m, x -> atom(x, 0, X), x -> x.compare(SAME, X, 5)), 1);
            due("UNLIKE", boundBy(m, x -> atom(x, 0, X), x -> x.compare(UNLIKE, 5, X)), 2);
            due("LESS", boundBy(m, x -> atom(x, 0, X), x -> atom(x, 0, Y), x -> x.compare(LESS, X, Y)), 3);
            due("AT_MOST", boundBy(m, x -> atom(x, 0, X), x -> atom(x, 0, Y), x -> x.compare(AT_MOST, X, Y)), 6);
        });
        says("a reckoning, if the variable has the number that is made", () -> {
            DatalogMill m = with(plain(1), 4, 5, 6);
            due("then in an atom", boundBy(m, x -> atom(x, 0, X), x -> x.reckon(Y, PLUS, X, 1), x -> atom(x, 0, Y)), 2);
            due("then compared", boundBy(m, x -> atom(x, 0, X), x -> x.reckon(Y, MINUS, X, 5), x -> x.compare(SAME, Y, 0)), 2);
        });
        says("With FOLLOWS each binding makes the row of the head, with the numbers of the variables.", () -> {
            DatalogMill m = plain(2, 3);
            fact(m, 0, 1, 2);
            fact(m, 0, 3, 4);
            rule(m, FOLLOWS, 1, Y, 7, X);
            atom(m, 0, X, Y);
            m.add();
            dueRows(m, 1, 20701, 40703);
            rule(m, FOLLOWS, 1, X, X, X);
            atom(m, 0, X, ANY);
            m.add();
            dueRows(m, 1, 10101, 20701, 30303, 40703);
        });
        says("Rules that are NEVER make no rows.", () -> {
            DatalogMill m = with(plain(1), 4);
            never(m);
            atom(m, 0, X);
            due("add", m.add(), 0);
            due("came", m.came(), 0);
            due("went", m.went(), 0);
            dueRows(m, 0, 40000);
            due("layer", m.layer(0), 0);
            due("ways", m.ways(0, 4, 0, 0), 1);
            due("goals", m.goals(0, 4, 0, 0), 1);
        });
    }

    private static void groups() {
        says("With COUNTS and SUMS the bindings are put into groups by what the terms of the head but the last one are then",
                () -> {
            DatalogMill m = plain(3, 3, 2, 1);
            fact(m, 0, 1, 2, 3);
            fact(m, 0, 1, 2, 4);
            fact(m, 0, 1, 3, 3);
            fact(m, 0, 2, 2, 3);
            rule(m, COUNTS, 1, X, Y, 0);
            atom(m, 0, X, Y, Z);
            m.add();
            dueRows(m, 1, 10202, 10301, 20201);
            rule(m, COUNTS, 2, X, 0);
            atom(m, 0, X, Y, Z);
            m.add();
            dueRows(m, 2, 10300, 20100);
            rule(m, SUMS, 3, Z);
            atom(m, 0, X, Y, Z);
            m.add();
            dueRows(m, 3, 130000);
            rule(m, SUMS, 2, 9, Y);
            atom(m, 0, X, Y, Z);
            m.add();
            dueRows(m, 2, 10300, 20100, 90900);
        });
        says("each group makes one row, whose last number is, with COUNTS, how many bindings it has", () -> {
            DatalogMill m = plain(2, 1, 1, 1);
            rule(m, COUNTS, 1, 0);
            atom(m, 0, X, Y);
            m.add();
            rule(m, COUNTS, 2, 0);
            atom(m, 0, X, ANY);
            m.add();
            due("no binding, no group", m.count(1), 0);
            for (int i = 0; i < 24; i++) {
                fact(m, 0, i / 8, i);
                dueRows(m, 1, (i + 1) * 10000);
                dueRows(m, 2, (i / 8 + 1) * 10000);
            }
        });
        says("with SUMS the sum of what the last term of the head is for each of them", () -> {
            DatalogMill m = plain(2, 1, 1, 1);
            rule(m, SUMS, 1, Y);
            atom(m, 0, X, Y);
            m.add();
            rule(m, SUMS, 2, 3);
            atom(m, 0, X, Y);
            m.add();
            rule(m, SUMS, 3, Y);
            atom(m, 0, ANY, Y);
            m.add();
            due("no binding, no group", m.count(1), 0);
            fact(m, 0, 1, 0);
            dueRows(m, 1, 0);
            dueRows(m, 2, 30000);
            fact(m, 0, 1, 7);
            fact(m, 0, 2, 7);
            dueRows(m, 1, 140000);
            dueRows(m, 2, 90000);
            dueRows(m, 3, 70000);
        });
        says("for each of them; what is above 99 becomes 99.", () -> {
            for (int last : new int[] {8, 9, 10, 99}) {
                DatalogMill m = plain(2, 1);
                for (int i = 0; i < 9; i++) {
                    fact(m, 0, i, 10);
                }
                fact(m, 0, 10, last);
                rule(m, SUMS, 1, Y);
                atom(m, 0, X, Y);
                m.add();
                dueRows(m, 1, Math.min(99, 90 + last) * 10000);
            }
            DatalogMill two = plain(2, 1, 3);
            fact(two, 0, 1, 0);
            fact(two, 0, 1, 1);
            for (int i = 0; i < 10; i++) {
                fact(two, 1, i);
            }
            rule(two, COUNTS, 2, X, Y, 0);
            atom(two, 0, X, Y);
            atom(two, 1, Z);
            atom(two, 1, W);
            two.add();
            dueRows(two, 2, 10099, 10199);
            int[][] sides = {{9, 11}, {10, 10}, {7, 14}, {12, 12}};
            for (int[] side : sides) {
                DatalogMill m = plain(1, 1, 1);
                for (int i = 0; i < side[0]; i++) {
                    fact(m, 0, i);
                }
                for (int i = 0; i < side[1]; i++) {
                    fact(m, 1, i);
                }
                rule(m, COUNTS, 2, 0);
                atom(m, 0, X);
                atom(m, 1, Y);
                m.add();
                dueRows(m, 2, Math.min(99, side[0] * side[1]) * 10000);
            }
        });
    }

    // ---- circles and layers

    /** What a FOLLOWS rule with this head and these literals is answered by add; it is dropped again. */
    private static int tried(DatalogMill m, int relation, int head, On... literals) {
        rule(m, FOLLOWS, relation, head);
        for (On literal : literals) {
            literal.make(m);
        }
        int answered = m.add();
        if (answered >= 0) {
            m.drop(answered);
        }
        return Math.min(0, answered);
    }

    private static void circles() {
        says("A relation hangs on each relation of the body of a rule of which it is the head, and on whatever that hangs on.",
                () -> {
            DatalogMill m = plain(1, 1, 1, 1, 1, 1);
            int[] bodies = new int[6];
            for (int r = 1; r < 6; r++) {
                rule(m, FOLLOWS, r, X);
                atom(m, 0, X);
                if (r % 2 == 0) {
                    not(m, r - 1, X);
                } else {
                    atom(m, r - 1, X);
                }
                bodies[r] = m.add();
            }
            for (int r = 1; r < 6; r++) {
                int last = r;
                due("0 of not " + r + ", which hangs on 0", tried(m, 0, 5, x -> not(x, last, 5)), LAYERLESS);
                due("1 of not " + r, tried(m, 1, 5, x -> not(x, last, 5)), LAYERLESS);
            }
            due("5 of not 4, on which it hangs but which does not hang on it", tried(m, 5, 5, x -> not(x, 4, 5)), 0);
            for (int first = 0; first < 3; first++) {
                for (int step = 1; step <= 2; step++) {
                    DatalogMill n = plain(1, 1, 1);
                    int second = (first + step) % 3;
                    int third = (second + step) % 3;
                    rule(n, FOLLOWS, first, X);
                    atom(n, second, X);
                    n.add();
                    rule(n, FOLLOWS, second, X);
                    atom(n, third, X);
                    n.add();
                    int hung = first;
                    due("a circle of three, from " + third, tried(n, third, 5, x -> not(x, hung, 5)), LAYERLESS);
                    due("none, from " + first, tried(n, first, 5, x -> not(x, third, 5)), 0);
                }
            }
            m.drop(bodies[3]);
            due("without the rule of 3, 4 does not hang on 2", tried(m, 2, 5, x -> not(x, 4, 5)), 0);
            due("but on 3", tried(m, 3, 5, x -> not(x, 4, 5)), LAYERLESS);
            due("and on 0", tried(m, 0, 5, x -> not(x, 4, 5)), LAYERLESS);
            never(m);
            atom(m, 2, X);
            atom(m, 4, X);
            m.add();
            due("NEVER lets nothing hang on anything", tried(m, 2, 5, x -> not(x, 4, 5)), 0);
        });
        says("Two relations are of one circle if each hangs on the other one", () -> {
            DatalogMill m = valued();
            rule(m, FOLLOWS, 2, X, V);
            atom(m, 1, X, V);
            due("far, as 1 does not hang on 2", m.add(), 0);
            due("layer", m.layer(2), 1);
            rule(m, FOLLOWS, 3, X, 1);
            atom(m, 2, X, ANY);
            m.add();
            due("layer", m.layer(3), 2);
            m.drop(0);
            rule(m, FOLLOWS, 1, X, 1);
            atom(m, 3, X, ANY);
            m.add();
            rule(m, FOLLOWS, 2, X, 1);
            atom(m, 1, X, ANY);
            due("near, as 1 hangs on 3, and 3 on 2", m.add(), 3);
            due("layer(1)", m.layer(1), 0);
            due("layer(2)", m.layer(2), 0);
            due("layer(3)", m.layer(3), 0);
        });
        says("if each hangs on the other one", () -> {
            for (int first = 0; first < 2; first++) {
                DatalogMill m = valued();
                for (int i = 0; i < 2; i++) {
                    rule(m, FOLLOWS, 5, X);
                    atom(m, i == first ? 4 : 5, X);
                    due("neither is SHRINKING", m.add(), i);
                }
                due("5 hangs on itself and on 4, but not 4 on 5", m.layer(5), 1);
                DatalogMill n = valued();
                for (int i = 0; i < 2; i++) {
                    rule(n, FOLLOWS, i == first ? 4 : 5, X);
                    atom(n, 4, X);
                    due("neither is SHRINKING", n.add(), i);
                }
                due("4 hangs on itself, and 5 on 4, but not 4 on 5", n.layer(5), 1);
            }
        });
        says("a relation is of one circle with itself, too.", () -> {
            DatalogMill m = valued();
            due("not itself", tried(m, 5, 5, x -> not(x, 5, 7)), LAYERLESS);
            rule(m, FOLLOWS, 4, V);
            atom(m, 4, V);
            due("a LEAST one of itself is near", m.add(), 0);
            due("layer", m.layer(4), 0);
        });
        says("An atom of a rule that is not NEVER is near, if the rule is FOLLOWS, the atom is not negated, and its relation "
                + "is PLAIN, or of one circle with that of the head; otherwise it is far.", () -> {
            due("FOLLOWS, PLAIN", layerBy(FOLLOWS, PLAIN, false, false), 0);
            due("FOLLOWS, PLAIN, in the circle", layerBy(FOLLOWS, PLAIN, false, true), 0);
            due("FOLLOWS, LEAST", layerBy(FOLLOWS, LEAST, false, false), 1);
            due("FOLLOWS, GREATEST", layerBy(FOLLOWS, GREATEST, false, false), 1);
            due("FOLLOWS, LEAST, in the circle", layerBy(FOLLOWS, LEAST, false, true), 0);
            due("FOLLOWS, GREATEST, in the circle", layerBy(FOLLOWS, GREATEST, false, true), 0);
            for (int kind = PLAIN; kind <= GREATEST; kind++) {
                due("negated, of kind " + kind, layerBy(FOLLOWS, kind, true, false), 1);
                due("COUNTS, of kind " + kind, layerBy(COUNTS, kind, false, false), 1);
                due("SUMS, of kind " + kind, layerBy(SUMS, kind, false, false), 1);
                due("NEVER, of kind " + kind, layerBy(NEVER, kind, true, false), 0);
            }
        });
    }

    /** The layer of relation 1, PLAIN, by a rule with an atom of relation 0. */
    private static int layerBy(int kind, int kindOfAtom, boolean isNegated, boolean isCircle) {
        DatalogMill m = new DatalogMill();
        m.relation(1, kindOfAtom);
        m.relation(1, PLAIN);
        if (isCircle) {
            rule(m, FOLLOWS, 0, 5);
            atom(m, 1, 5);
            m.add();
        }
        rule(m, kind, kind == NEVER ? NONE : 1, 0);
        m.atom(0, isNegated, ANY, 0, 0);
        due("add", m.add(), isCircle ? 1 : 0);
        return m.layer(1);
    }

    private static void layers() {
        says("The layer of a relation is the greatest of these: 0; the layers of the relations of near atoms of rules of which "
                + "it is the head; and the layers of the relations of far ones, and 1.", () -> {
            DatalogMill m = plain(1, 1, 1, 1, 1, 1);
            due("without rules", m.layer(0), 0);
            rule(m, FOLLOWS, 1, 5);
            not(m, 0, 5);
            m.add();
            rule(m, FOLLOWS, 2, 5);
            not(m, 1, 5);
            m.add();
            rule(m, FOLLOWS, 3, 5);
            atom(m, 2, 5);
            not(m, 0, 5);
            m.add();
            due("2 of the near one, 1 of the far one", m.layer(3), 2);
            rule(m, FOLLOWS, 4, 5);
            atom(m, 0, 5);
            not(m, 1, 5);
            int counted = m.add();
            due("0 of the near one, 2 of the far one", m.layer(4), 2);
            rule(m, FOLLOWS, 4, 5);
            not(m, 3, 5);
            int last = m.add();
            due("by another rule 3", m.layer(4), 3);
            rule(m, FOLLOWS, 5, 5);
            atom(m, 4, 5);
            m.add();
            due("near to that", m.layer(5), 3);
            m.drop(last);
            due("without it", m.layer(5), 2);
            m.drop(counted);
            due("without rules", m.layer(4), 0);
            due("near to that", m.layer(5), 0);
        });
    }

    private static void rowsLayerByLayer() {
        says("Rows are found layer by layer, from 0 on.", () -> {
            DatalogMill m = plain(1, 1, 1, 1);
            // Told the other way round, so that the order of the rules does not help.
            rule(m, FOLLOWS, 3, X);
            atom(m, 0, X);
            not(m, 2, X);
            m.add();
            rule(m, FOLLOWS, 2, X);
            atom(m, 0, X);
            not(m, 1, X);
            m.add();
            rule(m, FOLLOWS, 1, X);
            atom(m, 0, X);
            m.compare(LESS, X, 5);
            m.add();
            with(m, 4, 5, 6);
            dueRows(m, 1, 40000);
            dueRows(m, 2, 50000, 60000);
            dueRows(m, 3, 40000);
            fact(m, 2, 4);
            dueRows(m, 2, 40000, 50000, 60000);
            due("3 has none", m.count(3), 0);
        });
        says("In a layer its relations first have their facts as rows; then, again and again, all that its rules make of the "
                + "rows that there are by then is added, until nothing is new.", () -> {
            DatalogMill m = plain(1, 1);
            rule(m, FOLLOWS, 1, Y);
            atom(m, 0, X);
            m.reckon(Y, PLUS, X, 1);
            m.add();
            rule(m, FOLLOWS, 0, X);
            atom(m, 1, X);
            m.compare(LESS, X, 30);
            m.add();
            due("without facts nothing follows from itself", m.count(0), 0);
            fact(m, 0, 0);
            due("0 to 29", m.count(0), 30);
            due("1 to 30", m.count(1), 30);
            m.takeBack(0, 0, 0, 0);
            due("nothing is left over", m.count(0) + m.count(1), 0);
            for (int order = 0; order < 2; order++) {
                DatalogMill n = with(plain(1), 0, 4);
                rule(n, FOLLOWS, 0, Z);
                atom(n, 0, order == 0 ? X : Y);
                n.reckon(order == 0 ? Y : X, order == 0 ? PLUS : MINUS, order == 0 ? X : Y, 4);
                atom(n, 0, order == 0 ? Y : X);
                n.reckon(Z, PLUS, Y, 4);
                n.add();
                due("0, 4 and so on to 96, and 99: each of the two ahead of it", n.count(0), 26);
            }
            for (int kind = COUNTS; kind <= SUMS; kind++) {
                DatalogMill n = plain(1, 2, 1, 1);
                rule(n, FOLLOWS, 3, X);
                atom(n, 2, X);
                n.add();
                rule(n, FOLLOWS, 2, X);
                atom(n, 1, ANY, X);
                n.add();
                rule(n, kind, 1, X, 0);
                atom(n, 0, X);
                n.add();
                fact(n, 0, 5);
                due("in one layer: a group", n.layer(3), 1);
                dueRows(n, 1, kind == COUNTS ? 50100 : 50000);
                dueRows(n, 2, kind == COUNTS ? 10000 : 0);
                dueRows(n, 3, kind == COUNTS ? 10000 : 0);
            }
            fact(m, 1, 29);
            dueRows(m, 0, 290000);
            dueRows(m, 1, 290000, 300000);
        });
        says("Of a relation that is LEAST or GREATEST just the least, or the greatest, of the values for a key that came so far "
                + "is kept at each time.", () -> {
            DatalogMill m = valued();
            int[][] edges = {{1, 2, 9}, {1, 3, 1}, {3, 4, 1}, {4, 2, 1}, {2, 5, 1}};
            for (int[] edge : edges) {
                fact(m, 0, edge);
            }
            for (int kind = LEAST; kind <= GREATEST; kind++) {
                fact(m, kind, 1, 0);
                rule(m, FOLLOWS, kind, Y, W);
                atom(m, kind, X, V);
                atom(m, 0, X, Y, Z);
                m.reckon(W, PLUS, V, Z);
                due("add", m.add(), kind - 1);
            }
            dueRows(m, 1, 10000, 20300, 30100, 40200, 50400);
            dueRows(m, 2, 10000, 20900, 30100, 40200, 51000);
            fact(m, 0, 5, 3, 0);
            dueRows(m, 1, 10000, 20300, 30100, 40200, 50400);
            dueRows(m, 2, 10000, 29900, 39900, 49900, 59900);
            for (int order = 0; order < 2; order++) {
                DatalogMill n = valued();
                int[] values = {5, 9, 7};
                for (int i = 0; i < 3; i++) {
                    fact(n, 0, order == 0 ? i : 9 - i, 4, values[i]);
                }
                fact(n, 5, 4);
                for (int kind = LEAST; kind <= GREATEST; kind++) {
                    rule(n, FOLLOWS, kind, X, V);
                    atom(n, 0, ANY, X, V);
                    atom(n, 5, X);
                    n.compare(LESS, 1, V);
                    n.add();
                }
                dueRows(n, 1, 40500);
                dueRows(n, 2, 40900);
            }
        });
    }

    private static void growing() {
        says("Of a rule and an atom of it that is not negated, whose relation is LEAST or GREATEST and of one circle with that of "
                + "the head, the value term is a growing one: it falls with LEAST, and rises with GREATEST, as rows are found.",
                () -> {
            DatalogMill m = valued();
            due("LEAST, in the circle", triedPair(m, 1, X, 3, x -> atom(x, 1, X, 7)), SHRINKING);
            due("GREATEST, in the circle", triedPair(m, 2, X, 3, x -> atom(x, 2, X, 7)), SHRINKING);
            due("PLAIN, in the circle", triedPair(m, 3, X, 3, x -> atom(x, 3, X, 7)), 0);
            due("LEAST, not in the circle", triedPair(m, 2, X, 3, x -> atom(x, 1, X, 7)), 0);
            due("GREATEST, not in the circle", triedPair(m, 1, X, 3, x -> atom(x, 2, X, 7)), 0);
            due("the key is none", triedPair(m, 1, 5, 3, x -> atom(x, 1, 7, ANY)), 0);
            due("what falls may be less", triedPair(m, 1, X, V, x -> atom(x, 1, X, V), x -> x.compare(LESS, V, 7)), 0);
            due("what rises may be more", triedPair(m, 2, X, V, x -> atom(x, 2, X, V), x -> x.compare(LESS, 7, V)), 0);
            due("what falls may not be more", triedPair(m, 1, X, V, x -> atom(x, 1, X, V), x -> x.compare(LESS, 7, V)),
                    SHRINKING);
            due("what rises may not be less", triedPair(m, 2, X, V, x -> atom(x, 2, X, V), x -> x.compare(LESS, V, 7)),
                    SHRINKING);
        });
    }

    /** What a FOLLOWS rule with such a head of two terms is answered by add; it is dropped again. */
    private static int triedPair(DatalogMill m, int relation, int a, int b, On... literals) {
        rule(m, FOLLOWS, relation, a, b);
        for (On literal : literals) {
            literal.make(m);
        }
        int answered = m.add();
        if (answered >= 0) {
            m.drop(answered);
        }
        return Math.min(0, answered);
    }

    // ---- what is refused

    private static void unsafe() {
        says("The literals of a rule are looked at in their order.", () -> {
            due("known ahead", tried(plain(1), 0, X, x -> atom(x, 0, X), x -> x.compare(SAME, X, 1)), 0);
            due("known behind", tried(plain(1), 0, X, x -> x.compare(SAME, X, 1), x -> atom(x, 0, X)), UNSAFE);
        });
        says("A variable is known behind an atom that is not negated and has it, and behind a reckoning for it.", () -> {
            due("by an atom", tried(plain(1), 0, X, x -> atom(x, 0, X)), 0);
            due("by another one", tried(plain(1), 0, X, x -> atom(x, 0, Y)), UNSAFE);
            due("by a reckoning", tried(plain(1), 0, X, x -> x.reckon(X, PLUS, 1, 1)), 0);
            due("by another one", tried(plain(1), 0, X, x -> x.reckon(Y, PLUS, 1, 1)), UNSAFE);
            due("by a comparison with what is known", tried(plain(1), 0, X, x -> x.compare(SAME, X, 1)), UNSAFE);
            due("then in an atom again", tried(plain(1), 0, X, x -> x.reckon(X, PLUS, 1, 1), x -> atom(x, 0, X)), 0);
            for (int column = 0; column < 3; column++) {
                int[] terms = {ANY, ANY, ANY};
                terms[column] = X;
                due("by column " + column, tried(plain(1, 3), 0, X, x -> atom(x, 1, terms)), 0);
            }
        });
        says("a variable in a negated atom", () -> {
            due("not known", tried(plain(1, 1), 0, 5, x -> not(x, 1, X)), UNSAFE);
            due("not known, then known", tried(plain(1, 1), 0, X, x -> not(x, 1, X), x -> atom(x, 0, X)), UNSAFE);
            due("known", tried(plain(1, 1), 0, X, x -> atom(x, 0, X), x -> not(x, 1, X)), 0);
            for (int column = 0; column < 3; column++) {
                int[] terms = {ANY, 7, ANY};
                due("none", tried(plain(1, 3), 0, 5, x -> not(x, 1, terms)), 0);
                terms[column] = X;
                due("in column " + column, tried(plain(1, 3), 0, 5, x -> not(x, 1, terms)), UNSAFE);
            }
        });
        says("in a comparison", () -> {
            for (int comparison = SAME; comparison <= AT_MOST; comparison++) {
                int c = comparison;
                due("left", tried(plain(1), 0, 5, x -> x.compare(c, X, 1)), UNSAFE);
                due("right", tried(plain(1), 0, 5, x -> x.compare(c, 1, X)), UNSAFE);
                due("both the same", tried(plain(1), 0, 5, x -> x.compare(c, X, X)), UNSAFE);
                due("none", tried(plain(1), 0, 5, x -> x.compare(c, 1, 1)), 0);
            }
        });
        says("or among the two terms of a reckoning is not known ahead of it", () -> {
            for (int reckoning = PLUS; reckoning <= REST; reckoning++) {
                int r = reckoning;
                due("left", tried(plain(1), 0, 5, x -> x.reckon(Y, r, X, 1)), UNSAFE);
                due("right", tried(plain(1), 0, 5, x -> x.reckon(Y, r, 1, X)), UNSAFE);
                due("its own", tried(plain(1), 0, 5, x -> x.reckon(X, r, X, 1)), UNSAFE);
                due("known", tried(plain(1), 0, 5, x -> atom(x, 0, X), x -> x.reckon(Y, r, X, X)), 0);
            }
        });
        says("the variable for which a reckoning is made is known ahead of it", () -> {
            due("by an atom", tried(plain(1), 0, X, x -> atom(x, 0, X), x -> x.reckon(X, PLUS, 1, 1)), UNSAFE);
            due("by a reckoning", tried(plain(1), 0, X, x -> x.reckon(X, PLUS, 1, 1), x -> x.reckon(X, PLUS, 1, 1)), UNSAFE);
            due("only behind it", tried(plain(1), 0, X, x -> x.reckon(X, PLUS, 1, 1), x -> atom(x, 0, X)), 0);
        });
        says("a variable of the head is not known behind all.", () -> {
            for (int column = 0; column < 3; column++) {
                for (int kind = FOLLOWS; kind <= SUMS; kind++) {
                    DatalogMill m = plain(3, 1);
                    int[] head = {5, 5, kind == COUNTS ? 0 : 5};
                    rule(m, kind, 0, head);
                    atom(m, 1, Y);
                    due("none, kind " + kind, m.add(), 0);
                    head[column] = X;
                    rule(m, kind, 0, head);
                    atom(m, 1, Y);
                    due("column " + column + ", kind " + kind, m.add(), UNSAFE);
                }
            }
            due("known by the last literal", tried(plain(1), 0, X, x -> x.compare(SAME, 1, 1), x -> atom(x, 0, Y),
                    x -> x.compare(SAME, 1, 1), x -> atom(x, 0, X)), 0);
        });
        says("A COUNTS rule must have 0 as the last term of its head; otherwise it is UNSAFE, too.", () -> {
            for (int columns = 1; columns <= 3; columns++) {
                for (int term : new int[] {0, 1, 99, X}) {
                    DatalogMill m = plain(columns, 1);
                    int[] head = new int[columns];
                    head[columns - 1] = term;
                    rule(m, COUNTS, 0, head);
                    atom(m, 1, X);
                    due(columns + " columns, " + term, m.add(), term == 0 ? 0 : UNSAFE);
                    Arrays.fill(head, X);
                    head[columns - 1] = 0;
                    rule(m, COUNTS, 0, head);
                    atom(m, 1, X);
                    due(columns + " columns, others", m.add(), term == 0 ? 1 : 0);
                }
            }
            DatalogMill m = plain(2, 1);
            rule(m, SUMS, 0, X, 7);
            atom(m, 1, X);
            due("SUMS may have another one", m.add(), 0);
        });
    }

    private static void layerless() {
        says("Rules are LAYERLESS, if by the new one some relation is of one circle with a relation of a negated atom", () -> {
            due("itself", tried(plain(1, 1), 0, 5, x -> not(x, 0, 7)), LAYERLESS);
            due("another one", tried(plain(1, 1), 0, 5, x -> not(x, 1, 7)), 0);
            DatalogMill m = plain(1, 1, 1);
            rule(m, FOLLOWS, 1, 5);
            not(m, 0, 5);
            m.add();
            due("the negated atom is an older rule's", tried(m, 0, 5, x -> atom(x, 1, 5)), LAYERLESS);
            due("the new one closes no circle", tried(m, 2, 5, x -> atom(x, 1, 5), x -> atom(x, 0, 5)), 0);
            rule(m, FOLLOWS, 2, 5);
            atom(m, 1, 5);
            m.add();
            due("a circle of three", tried(m, 0, 5, x -> atom(x, 2, 5)), LAYERLESS);
            never(m);
            not(m, 0, 5);
            not(m, 1, 5);
            not(m, 2, 5);
            due("NEVER is the head of nothing", Math.min(0, m.add()), 0);
        });
        says("or of an atom in a COUNTS or SUMS rule, of a rule of which it is the head.", () -> {
            for (int kind = COUNTS; kind <= SUMS; kind++) {
                DatalogMill m = plain(1, 1);
                rule(m, kind, 0, 0);
                atom(m, 0, X);
                due("itself", m.add(), LAYERLESS);
                rule(m, kind, 0, 0);
                not(m, 0, 5);
                due("itself, negated", m.add(), LAYERLESS);
                rule(m, kind, 0, 0);
                atom(m, 1, X);
                due("another one", m.add(), 0);
                due("its atom is of one circle by the new one", tried(m, 1, X, x -> atom(x, 0, X)), LAYERLESS);
                m.drop(0);
                due("without it", tried(m, 1, X, x -> atom(x, 0, X)), 0);
            }
        });
    }

    private static void shrinking() {
        says("Rules are SHRINKING, if for one of them that is FOLLOWS (looked at with the circles that there are with the new one) "
                + "one of these is so:", () -> {
            DatalogMill m = valued();
            rule(m, FOLLOWS, 3, X, 5);
            atom(m, 1, X, 7);
            due("1 is not in the circle of 3", m.add(), 0);
            due("by the new one it is", triedPair(m, 1, X, 5, x -> atom(x, 3, X, ANY)), SHRINKING);
            m.drop(0);
            due("without the first one", triedPair(m, 1, X, 5, x -> atom(x, 3, X, ANY)), 0);
            DatalogMill n = valued();
            rule(n, FOLLOWS, 3, X, 5);
            atom(n, 1, X, V);
            n.add();
            rule(n, FOLLOWS, 1, X, 5);
            atom(n, 3, X, ANY);
            due("a circle, in which V falls", n.add(), 1);
            n.drop(1);
            due("no circle any more", triedPair(n, 3, X, V, x -> atom(x, 1, X, V)), 0);
            rule(n, FOLLOWS, 3, V, V);
            atom(n, 1, X, V);
            due("so V may be in the head", n.add(), 3);
            due("but then there may be no circle", triedPair(n, 1, X, 5, x -> atom(x, 3, X, ANY)), SHRINKING);
            due("once more", triedPair(n, 1, X, 5, x -> atom(x, 3, X, ANY)), SHRINKING);
            n.drop(3);
            due("now there may", triedPair(n, 1, X, 5, x -> atom(x, 3, X, ANY)), 0);
            never(m);
            atom(m, 1, 5, 7);
            due("NEVER", Math.min(0, m.add()), 0);
            rule(m, COUNTS, 3, X, 0);
            atom(m, 1, X, 7);
            due("COUNTS", Math.min(0, m.add()), 0);
            rule(m, SUMS, 3, V, V);
            atom(m, 1, X, V);
            due("SUMS", Math.min(0, m.add()), 0);
        });
        says("- a growing value term is a number, or a variable that a literal ahead of it has;", () -> {
            for (int kind = LEAST; kind <= GREATEST; kind++) {
                int k = kind;
                due("a number", triedPair(valued(), k, X, 5, x -> atom(x, k, X, 0)), SHRINKING);
                due("ANY", triedPair(valued(), k, X, 5, x -> atom(x, k, X, ANY)), 0);
                due("a variable of its own", triedPair(valued(), k, X, 5, x -> atom(x, k, X, V)), 0);
                due("an atom ahead has it", triedPair(valued(), k, X, 5, x -> atom(x, 5, V), x -> atom(x, k, X, V)),
                        SHRINKING);
                due("an atom ahead has another one", triedPair(valued(), k, X, 5, x -> atom(x, 5, U),
                        x -> atom(x, k, X, V)), 0);
                due("a reckoning ahead has it", triedPair(valued(), k, X, 5, x -> x.reckon(V, PLUS, 1, 1),
                        x -> atom(x, k, X, V)), SHRINKING);
                due("an atom farther ahead has it", triedPair(valued(), k, X, 5, x -> atom(x, 5, V),
                        x -> x.compare(SAME, 1, 1), x -> x.compare(SAME, V, V), x -> atom(x, k, X, V)), SHRINKING);
                due("a reckoning farther ahead has it", triedPair(valued(), k, X, 5, x -> x.reckon(V, PLUS, 1, 1),
                        x -> x.reckon(U, PLUS, 1, 1), x -> atom(x, 5, Y), x -> atom(x, k, X, V)), SHRINKING);
                for (int v = X; v <= LAST; v++) {
                    int value = v;
                    int other = v == X ? LAST : v - 1;
                    due("others ahead have others", triedPair(valued(), k, 7, 5, x -> atom(x, 5, other),
                            x -> x.compare(SAME, other, 1), x -> atom(x, k, ANY, value)), 0);
                    due("one ahead has it", triedPair(valued(), k, 7, 5, x -> atom(x, 5, value),
                            x -> x.compare(SAME, value, 1), x -> atom(x, k, ANY, value)), SHRINKING);
                    due("one ahead makes another one", triedPair(valued(), k, 7, 5, x -> x.reckon(other, PLUS, 1, 1),
                            x -> x.compare(SAME, 1, 1), x -> atom(x, k, ANY, value)), 0);
                }
                due("one like it ahead has it", triedPair(valued(), k, X, V, x -> atom(x, k, X, V),
                        x -> atom(x, k, Y, V)), SHRINKING);
            }
        });
        says("- a variable that falls or rises is in an atom otherwise than once, as a growing value term", () -> {
            for (int kind = LEAST; kind <= GREATEST; kind++) {
                int k = kind;
                due("in an atom behind", triedPair(valued(), k, X, V, x -> atom(x, k, X, V), x -> atom(x, 5, V)), SHRINKING);
                due("in a negated one behind", triedPair(valued(), k, X, V, x -> atom(x, k, X, V), x -> not(x, 5, V)),
                        SHRINKING);
                due("as a key behind", triedPair(valued(), k, X, V, x -> atom(x, k, X, V), x -> atom(x, k, V, ANY)),
                        SHRINKING);
                due("as the value of another one that is far", triedPair(valued(), k, X, V, x -> atom(x, k, X, V),
                        x -> atom(x, 4, V)), SHRINKING);
                due("as its own key", triedPair(valued(), k, 5, 5, x -> atom(x, k, V, V)), SHRINKING);
                due("what is made of it in an atom", triedPair(valued(), k, X, V, x -> atom(x, k, X, V),
                        x -> x.reckon(W, PLUS, V, 1), x -> atom(x, 5, W)), SHRINKING);
                due("the key is free", triedPair(valued(), k, X, V, x -> atom(x, k, X, V), x -> atom(x, 5, X)), 0);
            }
        });
        says("or it is in the head otherwise than as the value of a relation that is LEAST, if it falls, and GREATEST, if it rises;",
                () -> {
            for (int kind = LEAST; kind <= GREATEST; kind++) {
                int k = kind;
                due("as its value", triedPair(valued(), k, X, V, x -> atom(x, k, X, V)), 0);
                due("as its key", triedPair(valued(), k, V, 5, x -> atom(x, k, X, V)), SHRINKING);
                due("as both", triedPair(valued(), k, V, V, x -> atom(x, k, X, V)), SHRINKING);
                for (int other = LEAST; other <= 3; other++) {
                    if (other != k) {
                        DatalogMill m = valued();
                        due("not in the circle", triedPair(m, other, X, V, x -> atom(x, k, X, V)), 0);
                        rule(m, FOLLOWS, k, X, 5);
                        atom(m, other, X, ANY);
                        m.add();
                        due(k + " in a head of " + other, triedPair(m, other, X, V, x -> atom(x, k, X, V)), SHRINKING);
                    }
                }
            }
        });
        says("- a variable that falls is in a comparison, but as the first term of LESS or AT_MOST, with a second one that neither "
                + "falls nor rises", () -> dueCompared(LEAST));
        says("or one that rises, but as the second term of those, with a first one that neither falls nor rises.",
                () -> dueCompared(GREATEST));
    }

    private static void dueCompared(int kind) {
        for (int comparison = SAME; comparison <= AT_MOST; comparison++) {
            int c = comparison;
            boolean isOrder = c >= LESS;
            int first = isOrder && kind == LEAST ? 0 : SHRINKING;
            int second = isOrder && kind == GREATEST ? 0 : SHRINKING;
            On own = x -> atom(x, kind, X, V);
            due(c + ", first, a number", triedPair(valued(), kind, X, V, own, x -> x.compare(c, V, 7)), first);
            due(c + ", second, a number", triedPair(valued(), kind, X, V, own, x -> x.compare(c, 7, V)), second);
            due(c + ", first, another one", triedPair(valued(), kind, X, V, own, x -> x.compare(c, V, X)), first);
            due(c + ", second, another one", triedPair(valued(), kind, X, V, own, x -> x.compare(c, X, V)), second);
            due(c + ", itself", triedPair(valued(), kind, X, V, own, x -> x.compare(c, V, V)), SHRINKING);
            due(c + ", two alike", triedPair(valued(), kind, X, V, own, x -> atom(x, kind, Y, U), x -> x.compare(c, V, U)),
                    SHRINKING);
            due(c + ", of others", triedPair(valued(), kind, X, V, own, x -> x.compare(c, X, 7)), 0);
            // 1 and 2 in one circle: V falls and U rises.
            DatalogMill m = valued();
            rule(m, FOLLOWS, 1, X, 5);
            atom(m, 2, X, ANY);
            m.add();
            rule(m, FOLLOWS, 2, X, 5);
            atom(m, 1, X, ANY);
            m.add();
            due(c + ", what falls and what rises", triedPair(m, kind, X, 5, x -> atom(x, 1, X, V), x -> atom(x, 2, X, U),
                    x -> x.compare(c, V, U)), SHRINKING);
            due(c + ", what rises and what falls", triedPair(m, kind, X, 5, x -> atom(x, 1, X, V), x -> atom(x, 2, X, U),
                    x -> x.compare(c, U, V)), SHRINKING);
        }
    }

    private static void fallingAndRising() {
        says("A variable falls if it is a growing value term that falls; or if it is made by a reckoning by PLUS, TIMES, LESSER or "
                + "GREATER of two terms of which at least one falls and none rises", () -> {
            for (int reckoning : new int[] {PLUS, TIMES, LESSER, GREATER}) {
                due("falls and stays", courseOf(reckoning, V, 3), LEAST);
                due("stays and falls", courseOf(reckoning, 3, V), LEAST);
                due("falls and another one stays", courseOf(reckoning, V, X), LEAST);
                due("falls and falls", courseOf(reckoning, V, V), LEAST);
                due("falls and rises", courseOf(reckoning, V, U), SHRINKING);
                due("rises and falls", courseOf(reckoning, U, V), SHRINKING);
                due("stays and stays", courseOf(reckoning, X, 3), PLAIN);
            }
        });
        says("or by MINUS with a first one that falls, and a second one that neither falls nor rises, or with a first one that "
                + "neither falls nor rises and a second one that rises.", () -> {
            due("falls less what stays", courseOf(MINUS, V, 3), LEAST);
            due("falls less another one that stays", courseOf(MINUS, V, X), LEAST);
            due("stays less what rises", courseOf(MINUS, 3, U), LEAST);
            due("another one that stays less what rises", courseOf(MINUS, X, U), LEAST);
            due("falls less what rises", courseOf(MINUS, V, U), SHRINKING);
            due("falls less what falls", courseOf(MINUS, V, V), SHRINKING);
            due("stays less what stays", courseOf(MINUS, X, 3), PLAIN);
        });
        says("It rises likewise, with the other way round.", () -> {
            for (int reckoning : new int[] {PLUS, TIMES, LESSER, GREATER}) {
                due("rises and stays", courseOf(reckoning, U, 3), GREATEST);
                due("stays and rises", courseOf(reckoning, X, U), GREATEST);
                due("rises and rises", courseOf(reckoning, U, U), GREATEST);
            }
            due("rises less what stays", courseOf(MINUS, U, X), GREATEST);
            due("stays less what falls", courseOf(MINUS, 99, V), GREATEST);
            due("rises less what falls", courseOf(MINUS, U, V), SHRINKING);
            due("rises less what rises", courseOf(MINUS, U, U), SHRINKING);
        });
        says("If a reckoning has a term that falls or rises, and its variable neither falls nor rises by that, rules are "
                + "SHRINKING, too.", () -> {
            for (int term : new int[] {V, U}) {
                due("the rest of it", courseOf(REST, term, 3), SHRINKING);
                due("the rest by it", courseOf(REST, 3, term), SHRINKING);
            }
            due("the rest of others", courseOf(REST, X, 3), PLAIN);
            for (int v = X; v <= LAST; v++) {
                for (int w = X; w <= LAST; w++) {
                    for (int kind = LEAST; v != w && kind <= GREATEST; kind++) {
                        int k = kind;
                        int value = v;
                        int made = w;
                        On[] rest = {x -> atom(x, k, ANY, value), x -> x.reckon(made, REST, value, 3)};
                        due("the rest of " + v + " as " + w, triedPair(valued(), k, 7, 5, rest), SHRINKING);
                        On[] sum = {x -> atom(x, k, ANY, value), x -> x.reckon(made, PLUS, 3, value)};
                        due("the sum of " + v + " as " + w, triedPair(valued(), k, 7, w, sum), 0);
                        due("the sum of " + v + " as " + w + " as a key", triedPair(valued(), k, w, 5, sum), SHRINKING);
                    }
                }
            }
            DatalogMill m = valued();
            due("though it is used nowhere", triedPair(m, 1, X, 5, x -> atom(x, 1, X, V), x -> x.reckon(W, REST, V, 3)),
                    SHRINKING);
        });
    }

    /**
     * What becomes of a variable made by a reckoning of V, which falls, U, which rises, or X, which does neither: LEAST if
     * it falls, GREATEST if it rises, PLAIN if neither; SHRINKING if the reckoning itself is that.
     */
    private static int courseOf(int reckoning, int left, int right) {
        DatalogMill m = valued();
        rule(m, FOLLOWS, 1, X, 5);
        atom(m, 2, X, ANY);
        m.add();
        rule(m, FOLLOWS, 2, X, 5);
        atom(m, 1, X, ANY);
        m.add();
        On[] body = {x -> atom(x, 1, X, V), x -> atom(x, 2, X, U), x -> x.reckon(W, reckoning, left, right)};
        if (triedPair(m, 1, X, 5, body) == SHRINKING) {
            return SHRINKING;
        }
        boolean canFall = triedPair(m, 1, X, W, body) == 0;
        boolean canRise = triedPair(m, 2, X, W, body) == 0;
        boolean canBeKey = triedPair(m, 1, W, 5, body) == 0;
        return canBeKey ? PLAIN : canFall == canRise ? NONE : canFall ? LEAST : GREATEST;
    }

    private static void tooMuch() {
        says("What follows is TOO_MUCH, if some relation would have more than 32 rows by it.", () -> {
            for (int kind = PLAIN; kind <= GREATEST; kind++) {
                for (int rows = 31; rows <= 33; rows++) {
                    int due = rows > 32 ? TOO_MUCH : 0;
                    DatalogMill m = spread(kind, rows);
                    due(rows + " rows of kind " + kind, Math.min(0, m.add()), due);
                    due("count", m.count(2), due == 0 ? rows : 1);
                }
            }
            for (int kind = COUNTS; kind <= SUMS; kind++) {
                for (int pairs = 32; pairs <= 33; pairs++) {
                    DatalogMill m = plain(1, 1, 3);
                    for (int i = 0; i < 8; i++) {
                        fact(m, 0, i);
                    }
                    for (int i = 0; i < 4; i++) {
                        fact(m, 1, i);
                    }
                    if (pairs > 32) {
                        fact(m, 2, 50, 50, 50);
                    }
                    rule(m, kind, 2, X, Y, 0);
                    atom(m, 0, X);
                    atom(m, 1, Y);
                    due(pairs + " groups and rows", Math.min(0, m.add()), pairs > 32 ? TOO_MUCH : 0);
                    due("count", m.count(2), pairs > 32 ? 1 : 32);
                }
            }
            for (int kind = COUNTS; kind <= SUMS; kind++) {
                for (int second = 4; second <= 5; second++) {
                    for (int relation = 2; relation <= 4; relation++) {
                        DatalogMill m = grouped(8, second);
                        rule(m, kind, relation, X, Y, 0);
                        atom(m, 0, X);
                        atom(m, 1, Y);
                        due(8 * second + " groups", Math.min(0, m.add()), second > 4 ? TOO_MUCH : 0);
                        due("count", m.count(relation), second > 4 ? 0 : 32);
                        if (second > 4) {
                            m.takeBack(0, 3, 0, 0);
                            m.takeBack(0, 7, 0, 0);
                            rule(m, kind, relation, X, Y, 0);
                            atom(m, 0, X);
                            atom(m, 1, Y);
                            due("30 groups", Math.min(0, m.add()), 0);
                            due("count", m.count(relation), 30);
                            refused("35 groups", STATE, () -> fact(m, 0, 90));
                            due("count", m.count(relation), 30);
                        }
                    }
                }
            }
            allFull();
            DatalogMill v = valued();
            for (int i = 0; i < 24; i++) {
                fact(v, 1, 1, 4 * i);
            }
            rule(v, FOLLOWS, 1, 1, Y);
            atom(v, 1, X, V);
            v.reckon(Y, MINUS, V, 1);
            due("more than 32 values of one key are one row", Math.min(0, v.add()), 0);
            dueRows(v, 1, 10000);
        });
    }

    /** 6 relations with 32 rows each, 24 facts and 10 rules: all that can be asked is asked. */
    private static void allFull() {
        DatalogMill m = plain(1, 1, 1, 1, 1, 1);
        fact(m, 0, 0);
        for (int i = 0; i < 23; i++) {
            m.fact(5, 31 - i, 0, 0, 99, NONE);
        }
        rule(m, FOLLOWS, 0, Y);
        atom(m, 0, X);
        m.compare(LESS, X, 31);
        m.reckon(Y, PLUS, X, 1);
        m.add();
        for (int r = 1; r < 6; r++) {
            rule(m, FOLLOWS, r, X);
            atom(m, r - 1, X);
            m.add();
        }
        for (int i = 0; i < 3; i++) {
            never(m);
            atom(m, 5, X);
            atom(m, 4, ANY);
            atom(m, 3, X);
            m.compare(LESS, 27 + i, X);
            due("add", m.add(), 6 + i);
            due("bindings", m.bindings(6 + i), 4 - i);
        }
        rule(m, FOLLOWS, 5, 31);
        atom(m, 0, ANY);
        atom(m, 5, ANY);
        due("add", m.add(), 9);
        for (int r = 0; r < 6; r++) {
            due("count", m.count(r), 32);
            for (int n = 0; n < 32; n++) {
                due("row", m.rowAt(r, n), 10000 * n);
                if (r < 5) {
                    due("height", m.height(r, n, 0, 0), n + r);
                    due("price", m.price(r, n, 0, 0), n + r + 1);
                    due("ways", m.ways(r, n, 0, 0), 1);
                }
            }
        }
        dueFull(m);
    }

    private static void dueFull(DatalogMill m) {
        due("ways: a fact, 32 by 32 with ANY are one, and a step", m.ways(5, 31, 0, 0), 3);
        due("height of a fact", m.height(5, 9, 0, 0), 0);
        due("height of none", m.height(5, 8, 0, 0), 13);
        due("price of a way", m.price(5, 9, 0, 0), 15);
        due("price by the cheapest", m.price(5, 31, 0, 0), 1 + 1 + 6);
        due("needs", m.needs(4, 31, 0, 0), 1);
        due("needs", m.needs(5, 9, 0, 0), 0);
        due("answers", m.answers(5, ANY, 0, 0), 32);
        due("reaches", m.reaches(9, 31, 0, 0), 2);
        due("reaches", m.reaches(5, 31, 0, 0), 1);
        due("goals: of 5, 4, 3, 2, 1, 0 31, 0 ANY, 5 ANY, 4 to 1 ANY", m.goals(5, 31, 0, 0), 12);
        due("repair: 5(X) is there by 4(X), which hangs on 0(0)", m.repair(), 1);
        due("repairAt", m.repairAt(0), 0);
        due("holdsAnew", m.holdsAnew(5, 31, 0, 0), true);
        m.takeBack(5, 9, 0, 0);
        refused("a 33rd row", STATE, () -> fact(m, 5, 32));
    }

    /** So many rows in relations 0 and 1; 2 to 4 have three columns and are of each kind. */
    private static DatalogMill grouped(int first, int second) {
        DatalogMill m = plain(1, 1);
        for (int kind = PLAIN; kind <= GREATEST; kind++) {
            m.relation(3, kind);
        }
        for (int i = 0; i < first; i++) {
            fact(m, 0, i);
        }
        for (int i = 0; i < second; i++) {
            fact(m, 1, i);
        }
        return m;
    }

    /** A draft whose rule gives relation 2 the 32 pairs of 8 and 4 rows, or one less; or there is a fact more. */
    private static DatalogMill spread(int kind, int rows) {
        DatalogMill m = plain(1, 1);
        m.relation(3, kind);
        for (int i = 0; i < 8; i++) {
            fact(m, 0, i);
        }
        for (int i = 0; i < 4; i++) {
            fact(m, 1, i);
        }
        if (rows > 32) {
            fact(m, 2, 50, 50, 50);
        }
        rule(m, FOLLOWS, 2, X, Y, 7);
        atom(m, 0, X);
        atom(m, 1, Y);
        m.reckon(Z, PLUS, X, Y);
        m.compare(LESS, Z, rows < 32 ? 10 : 11);
        return m;
    }

    // ---- ways, heights, prices

    private static void ways() {
        says("A way to a row is a fact that is this row", () -> {
            DatalogMill m = with(plain(1), 5);
            due("a fact", m.ways(0, 5, 0, 0), 1);
            due("another row", m.ways(0, 6, 0, 0), 0);
            m.takeBack(0, 5, 0, 0);
            due("no fact", m.ways(0, 5, 0, 0), 0);
            DatalogMill n = plain(1, 1);
            fact(n, 0, 5);
            fact(n, 1, 5);
            always(n, 1, 5);
            due("a fact and a rule of another relation", n.ways(0, 5, 0, 0), 1);
            due("of that one", n.ways(1, 5, 0, 0), 2);
        });
        says("or a binding of a FOLLOWS rule, by the rows that follow, that makes this row", () -> {
            DatalogMill m = plain(2, 1);
            rule(m, FOLLOWS, 1, X);
            atom(m, 0, X, Y);
            m.add();
            for (int i = 1; i <= 9; i++) {
                fact(m, 0, 5, i);
                fact(m, 0, 6, i);
                due("bindings", m.ways(1, 5, 0, 0), i);
            }
            rule(m, FOLLOWS, 1, X);
            atom(m, 0, X, ANY);
            m.add();
            due("and one with ANY", m.ways(1, 5, 0, 0), 10);
            rule(m, FOLLOWS, 1, X);
            atom(m, 1, X);
            m.add();
            due("and one from itself", m.ways(1, 5, 0, 0), 11);
            DatalogMill v = valued();
            fact(v, 3, 1, 5);
            fact(v, 3, 1, 6);
            fact(v, 3, 2, 5);
            rule(v, FOLLOWS, 4, Y);
            atom(v, 3, X, Y);
            v.add();
            due("two bindings make the least", v.ways(4, 5, 0, 0), 2);
            due("what is not the least", v.ways(4, 6, 0, 0), 0);
            for (int made = X; made <= LAST; made++) {
                DatalogMill n = plain(1, 1);
                int other = made == Y ? Z : Y;
                rule(n, FOLLOWS, 1, made);
                atom(n, 0, other);
                n.reckon(made, PLUS, other, 1);
                n.add();
                for (int i = 0; i < 9; i++) {
                    fact(n, 0, i);
                }
                for (int i = 1; i <= 9; i++) {
                    due("of nine that are made, " + i, n.ways(1, i, 0, 0), 1);
                }
            }
        });
        says("or a group of a COUNTS or SUMS rule that makes it.", () -> {
            DatalogMill m = plain(2, 2);
            fact(m, 0, 1, 2);
            fact(m, 0, 1, 3);
            fact(m, 0, 2, 5);
            rule(m, COUNTS, 1, X, 0);
            atom(m, 0, X, Y);
            m.add();
            due("a group of two bindings", m.ways(1, 1, 2, 0), 1);
            due("another number", m.ways(1, 1, 1, 0), 0);
            rule(m, SUMS, 1, X, 1);
            atom(m, 0, X, Y);
            m.add();
            due("and a group of sums", m.ways(1, 1, 2, 0), 2);
            rule(m, SUMS, 1, X, Y);
            atom(m, 0, X, Y);
            m.add();
            due("another sum", m.ways(1, 1, 2, 0), 2);
            due("that one's row", m.ways(1, 1, 5, 0), 1);
            fact(m, 1, 1, 5);
            due("and a fact", m.ways(1, 1, 5, 0), 2);
            DatalogMill n = plain(1, 1);
            for (int i = 0; i < 12; i++) {
                fact(n, 0, i);
            }
            rule(n, COUNTS, 1, 0);
            atom(n, 0, X);
            atom(n, 0, Y);
            n.add();
            due("144 bindings, so 99", n.ways(1, 99, 0, 0), 1);
        });
    }

    private static void heights() {
        says("The height of a row is the least of the heights of its ways", () -> {
            DatalogMill m = plain(1, 1, 1);
            fact(m, 0, 1);
            rule(m, FOLLOWS, 1, X);
            atom(m, 0, X);
            m.add();
            rule(m, FOLLOWS, 2, X);
            atom(m, 1, X);
            m.add();
            due("by 1", m.height(2, 1, 0, 0), 2);
            rule(m, FOLLOWS, 2, X);
            atom(m, 0, X);
            m.add();
            due("by 0", m.height(2, 1, 0, 0), 1);
            fact(m, 2, 1);
            due("a fact", m.height(2, 1, 0, 0), 0);
        });
        says("that of a fact is 0", () -> due("a fact", with(plain(1), 5).height(0, 5, 0, 0), 0));
        says("that of a binding 1 more than the greatest of the heights of its atoms that are not negated "
                + "(1 if there are none)", () -> {
            DatalogMill m = plain(1, 1, 1, 1);
            fact(m, 0, 1);
            for (int r = 1; r < 4; r++) {
                rule(m, FOLLOWS, r, 1);
                atom(m, r - 1, 1);
                if (r > 1) {
                    atom(m, 0, 1);
                }
                m.add();
                due("height", m.height(r, 1, 0, 0), r);
            }
            rule(m, FOLLOWS, 0, 2);
            atom(m, 1, 1);
            atom(m, 3, 1);
            atom(m, 0, 1);
            m.add();
            due("of 1, 3 and 0", m.height(0, 2, 0, 0), 4);
            rule(m, FOLLOWS, 0, 3);
            not(m, 3, 9);
            m.compare(SAME, 1, 1);
            due("not 3 is in a circle", m.add(), LAYERLESS);
            DatalogMill n = plain(1, 1);
            rule(n, FOLLOWS, 0, 3);
            not(n, 1, 9);
            n.compare(SAME, 1, 1);
            n.add();
            due("none", n.height(0, 3, 0, 0), 1);
        });
        says("that of an atom being the least of the heights of the rows that fit", () -> {
            DatalogMill m = plain(2, 1);
            always(m, 0, 5, 1);
            fact(m, 0, 5, 2);
            rule(m, FOLLOWS, 1, X);
            atom(m, 0, X, ANY);
            m.add();
            due("heights 1 and 0", m.height(1, 5, 0, 0), 1);
            m.takeBack(0, 5, 2, 0);
            due("height 1 alone", m.height(1, 5, 0, 0), 2);
            fact(m, 0, 6, 1);
            due("a row that does not fit", m.height(1, 5, 0, 0), 2);
            fact(m, 0, 5, 0);
            due("heights 0 and 1", m.height(1, 5, 0, 0), 1);
            always(m, 0, 5, 3);
            due("heights 0, 1 and 1", m.height(1, 5, 0, 0), 1);
            m.takeBack(0, 5, 0, 0);
            m.fact(0, 5, 2, 0, 99, NONE);
            due("heights 1, 0 and 1", m.height(1, 5, 0, 0), 1);
            due("prices 1, 99 and 1", m.price(1, 5, 0, 0), 2);
        });
        says("that of a group 1 more than the greatest of those of all atoms that are not negated, of all its bindings "
                + "(1 if there are none).", () -> {
            DatalogMill m = plain(1, 1, 1);
            fact(m, 0, 1);
            rule(m, COUNTS, 1, 0);
            atom(m, 0, X);
            atom(m, 0, Y);
            m.add();
            due("of facts", m.height(1, 1, 0, 0), 1);
            always(m, 0, 2);
            due("one of height 1", m.height(1, 4, 0, 0), 2);
            rule(m, SUMS, 2, 7);
            not(m, 0, 9);
            m.add();
            due("none", m.height(2, 7, 0, 0), 1);
            DatalogMill n = plain(2, 2);
            fact(n, 0, 1, 1);
            always(n, 0, 5, 1);
            fact(n, 0, 5, 2);
            rule(n, COUNTS, 1, X, 0);
            atom(n, 0, X, Y);
            n.add();
            due("of a fact", n.height(1, 1, 1, 0), 1);
            due("of heights 1 and 0", n.height(1, 5, 2, 0), 2);
            manyGroups();
        });
        says("Heights and prices are found from facts, and from bindings without such atoms, on, again and again; a row that is "
                + "not reached so has none.", () -> {
            DatalogMill m = valued();
            fact(m, 2, 4, 97);
            rule(m, FOLLOWS, 2, X, W);
            atom(m, 2, X, V);
            m.reckon(W, PLUS, V, 1);
            m.add();
            dueRows(m, 2, 49900);
            due("99 follows from itself alone", m.height(2, 4, 99, 0), NONE);
            due("it has no price", m.price(2, 4, 99, 0), NONE);
            due("it has a way", m.ways(2, 4, 99, 0), 1);
            rule(m, FOLLOWS, 5, X);
            atom(m, 2, X, ANY);
            m.add();
            due("nor what follows from it", m.height(5, 4, 0, 0), NONE);
            rule(m, COUNTS, 4, 0);
            atom(m, 2, X, ANY);
            m.add();
            due("nor a group of it", m.height(4, 1, 0, 0), NONE);
            due("nor its price", m.price(4, 1, 0, 0), NONE);
            for (int other : new int[] {3, 5}) {
                DatalogMill n = valued();
                fact(n, 2, 4, 97);
                rule(n, FOLLOWS, 2, X, W);
                atom(n, 2, X, V);
                n.compare(LESS, 90, V);
                n.reckon(W, PLUS, V, 1);
                n.add();
                fact(n, 2, other, 80);
                rule(n, COUNTS, 4, 0);
                atom(n, 2, X, ANY);
                n.add();
                due("a group of one that is reached and one that is not", n.height(4, 2, 0, 0), NONE);
                due("its price", n.price(4, 2, 0, 0), NONE);
                fact(n, 2, 4, 99);
                due("now both are", n.height(4, 2, 0, 0), 1);
                due("its price", n.price(4, 2, 0, 0), 3);
            }
            always(m, 2, 4, 99);
            due("a binding without atoms", m.height(2, 4, 99, 0), 1);
            due("what follows from it", m.height(5, 4, 0, 0), 2);
            due("a group of it", m.price(4, 1, 0, 0), 2);
        });
    }

    /** Groups whose heights and prices are unlike, and some that have none. */
    private static void manyGroups() {
        for (int kind = COUNTS; kind <= SUMS; kind++) {
            DatalogMill m = plain(2, 2);
            m.relation(2, GREATEST);
            fact(m, 2, 4, 97);
            rule(m, FOLLOWS, 2, X, W);
            atom(m, 2, X, V);
            m.reckon(W, PLUS, V, 1);
            m.add();
            m.fact(0, 1, 1, 0, 10, NONE);
            m.fact(0, 3, 2, 0, 20, NONE);
            rule(m, FOLLOWS, 0, Y, X);
            atom(m, 0, X, Y);
            m.add();
            rule(m, FOLLOWS, 0, X, 0);
            atom(m, 2, X, ANY);
            m.add();
            rule(m, kind, 1, X, 0);
            atom(m, 0, X, Y);
            m.add();
            rule(m, FOLLOWS, 0, 0, 6);
            atom(m, 0, 2, 3);
            m.add();
            int[] groups = {0, 1, 2, 3, 4, 6};
            int[] counts = {2, 1, 1, 1, 1, 1};
            int[] heights = {NONE, 1, 2, 1, NONE, 4};
            int[] prices = {NONE, 11, 22, 21, NONE, 24};
            due("groups", m.count(1), 6);
            for (int i = 0; i < 6; i++) {
                int count = kind == COUNTS ? counts[i] : 0;
                due("height of " + groups[i], m.height(1, groups[i], count, 0), heights[i]);
                due("price of " + groups[i], m.price(1, groups[i], count, 0), prices[i]);
            }
            DatalogMill full = grouped(8, 4);
            rule(full, kind, 2, X, Y, 0);
            atom(full, 0, X);
            atom(full, 1, Y);
            full.add();
            for (int i = 0; i < 32; i++) {
                int count = kind == COUNTS ? 1 : 0;
                due("height of 32 groups' rows", full.height(2, i / 4, i % 4, count), 1);
                due("price of 32 groups' rows", full.price(2, i / 4, i % 4, count), 3);
                due("ways of 32 groups' rows", full.ways(2, i / 4, i % 4, count), 1);
            }
        }
    }

    /** Rows of relation 0, one column; each step says that the second number follows from the first one. */
    private static DatalogMill steps(int[]... steps) {
        DatalogMill m = plain(1);
        m.fact(0, 1, 0, 0, 1, NONE);
        m.fact(0, 2, 0, 0, 90, NONE);
        for (int[] step : steps) {
            rule(m, FOLLOWS, 0, step[1]);
            atom(m, 0, step[0]);
            m.add();
        }
        return m;
    }

    private static void againAndAgain() {
        says("again and again; a row that is not reached so has none.", () -> {
            // 20 first gets a cheap way by 10, 11 and 12, then a short one by 13; 21 is told ahead of that.
            DatalogMill m = steps(new int[][] {{1, 10}, {10, 11}, {11, 12}, {12, 20}, {20, 21}, {13, 20}, {2, 13}});
            due("the short way", m.height(0, 20, 0, 0), 2);
            due("and on from it", m.height(0, 21, 0, 0), 3);
            due("the cheap way", m.price(0, 20, 0, 0), 5);
            due("and on from it", m.price(0, 21, 0, 0), 6);
            // 20 first gets a short way by 2, then a cheap one by 10, which is not shorter.
            DatalogMill n = steps(new int[][] {{2, 20}, {20, 21}, {10, 20}, {1, 10}});
            due("the short way", n.height(0, 20, 0, 0), 1);
            due("and on from it", n.height(0, 21, 0, 0), 2);
            due("the cheap way", n.price(0, 20, 0, 0), 3);
            due("and on from it", n.price(0, 21, 0, 0), 4);
            // All told the other way round: each round finds one more.
            DatalogMill o = steps(new int[][] {{14, 15}, {13, 14}, {12, 13}, {11, 12}, {10, 11}, {1, 10}});
            for (int i = 10; i <= 15; i++) {
                due("height of " + i, o.height(0, i, 0, 0), i - 9);
                due("price of " + i, o.price(0, i, 0, 0), i - 8);
            }
        });
    }

    private static void prices() {
        says("The price of a row is the least of the prices of its ways", () -> {
            DatalogMill m = plain(1, 1);
            m.fact(0, 1, 0, 0, 10, NONE);
            m.fact(0, 2, 0, 0, 20, NONE);
            rule(m, FOLLOWS, 1, 5);
            atom(m, 0, X);
            m.add();
            due("10 or 20", m.price(1, 5, 0, 0), 11);
            m.fact(1, 5, 0, 0, 12, NONE);
            due("or 12", m.price(1, 5, 0, 0), 11);
            m.takeBack(0, 1, 0, 0);
            due("12 or 21", m.price(1, 5, 0, 0), 12);
        });
        says("that of a fact is its price", () -> {
            DatalogMill m = plain(1);
            m.fact(0, 1, 0, 0, 1, NONE);
            m.fact(0, 2, 0, 0, 99, NONE);
            due("1", m.price(0, 1, 0, 0), 1);
            due("99", m.price(0, 2, 0, 0), 99);
        });
        says("that of a binding is 1 and the prices of its atoms that are not negated, added", () -> {
            DatalogMill m = plain(1, 1, 1);
            m.fact(0, 1, 0, 0, 10, NONE);
            m.fact(0, 2, 0, 0, 20, NONE);
            rule(m, FOLLOWS, 1, 5);
            atom(m, 0, 1);
            atom(m, 0, 2);
            atom(m, 0, 1);
            m.add();
            due("10, 20 and 10 again", m.price(1, 5, 0, 0), 41);
            rule(m, FOLLOWS, 1, 6);
            atom(m, 0, 1);
            not(m, 2, 2);
            m.add();
            due("10", m.price(1, 6, 0, 0), 11);
            due("no atoms", m.price(1, 7, 0, 0), NONE);
            always(m, 1, 7);
            due("no atoms", m.price(1, 7, 0, 0), 1);
        });
        says("that of an atom being the least of the prices of the rows that fit", () -> {
            DatalogMill m = plain(2, 1);
            m.fact(0, 5, 1, 0, 30, NONE);
            m.fact(0, 5, 2, 0, 20, NONE);
            m.fact(0, 6, 3, 0, 10, NONE);
            rule(m, FOLLOWS, 1, X);
            atom(m, 0, X, ANY);
            m.add();
            due("30 or 20", m.price(1, 5, 0, 0), 21);
            due("10", m.price(1, 6, 0, 0), 11);
        });
        says("that of a group is 1 and those of all atoms that are not negated, of all its bindings, added", () -> {
            DatalogMill m = plain(2, 2, 1);
            m.fact(0, 5, 1, 0, 30, NONE);
            m.fact(0, 5, 2, 0, 20, NONE);
            m.fact(0, 6, 3, 0, 10, NONE);
            rule(m, COUNTS, 1, X, 0);
            atom(m, 0, X, Y);
            m.add();
            due("30 and 20", m.price(1, 5, 2, 0), 51);
            due("10", m.price(1, 6, 1, 0), 11);
            rule(m, SUMS, 2, 1);
            atom(m, 0, X, ANY);
            atom(m, 0, 6, 3);
            m.add();
            due("20 and 10, 10 and 10", m.price(2, 2, 0, 0), 51);
            rule(m, SUMS, 2, 9);
            not(m, 0, 7, ANY);
            m.add();
            due("no atoms", m.price(2, 9, 0, 0), 1);
        });
        says("what is above 9999 becomes 9999.", () -> {
            // A group of 100 bindings of one atom of two has 1 and 20 times the prices of 10 facts.
            int[][] priceAndDue = {{46, 9981}, {47, 9999}, {99, 9999}};
            for (int[] each : priceAndDue) {
                DatalogMill m = plain(1, 1, 1, 1);
                for (int i = 0; i < 10; i++) {
                    m.fact(0, i, 0, 0, i < 8 ? 50 : i == 8 ? 53 : each[0], NONE);
                }
                rule(m, COUNTS, 1, 0);
                atom(m, 0, X);
                atom(m, 0, Y);
                m.add();
                due("with " + each[0], m.price(1, 99, 0, 0), each[1]);
                for (int r = 2; r < 4; r++) {
                    rule(m, FOLLOWS, r, 1);
                    atom(m, r - 1, ANY);
                    m.add();
                }
                due("1 more", m.price(2, 1, 0, 0), Math.min(9999, each[1] + 1));
                due("2 more", m.price(3, 1, 0, 0), Math.min(9999, each[1] + 2));
                rule(m, FOLLOWS, 3, 2);
                atom(m, 1, X);
                atom(m, 0, 0);
                m.add();
                due("50 and 1 more", m.price(3, 2, 0, 0), 9999);
            }
            for (int add = 16; add <= 19; add++) {
                // 9981, and 1 and as much: just below, at and above 9999.
                DatalogMill m = plain(1, 1, 1, 1);
                for (int i = 0; i < 10; i++) {
                    m.fact(0, i, 0, 0, i < 8 ? 50 : i == 8 ? 53 : 46, NONE);
                }
                m.fact(2, 0, 0, 0, add, NONE);
                rule(m, COUNTS, 1, 0);
                atom(m, 0, X);
                atom(m, 0, Y);
                m.add();
                rule(m, FOLLOWS, 3, 1);
                atom(m, 1, ANY);
                atom(m, 2, ANY);
                m.add();
                due("9981 and " + add + " and 1", m.price(3, 1, 0, 0), Math.min(9999, 9982 + add));
            }
        });
    }

    // ---- goals

    private static void goals() {
        says("A goal is a relation with a number or ANY for each of its columns.", () -> {
            DatalogMill m = plain(3, 1);
            rule(m, FOLLOWS, 1, X);
            atom(m, 0, X, ANY, 5);
            m.add();
            rule(m, FOLLOWS, 1, X);
            atom(m, 0, X, 5, ANY);
            m.add();
            rule(m, FOLLOWS, 1, X);
            atom(m, 0, X, ANY, ANY);
            m.add();
            rule(m, FOLLOWS, 1, X);
            atom(m, 0, X, 0, 0);
            m.add();
            due("itself and four that are unlike", m.goals(1, 7, 0, 0), 5);
            rule(m, FOLLOWS, 1, X);
            atom(m, 0, X, Y, Z);
            m.add();
            due("one of them again", m.goals(1, 7, 0, 0), 5);
        });
        says("for each rule that is not NEVER, whose head is of its relation", () -> {
            DatalogMill m = plain(1, 1, 1);
            for (int kind = FOLLOWS; kind <= NEVER; kind++) {
                rule(m, kind, kind == NEVER ? NONE : 1, 0);
                atom(m, 0, kind);
                m.add();
            }
            due("FOLLOWS, COUNTS and SUMS", m.goals(1, 0, 0, 0), 4);
            due("another relation", m.goals(2, 0, 0, 0), 1);
        });
        says("its numbers are put in for the terms of the head, as far as these are variables", () -> {
            DatalogMill m = plain(3, 3);
            rule(m, FOLLOWS, 1, X, Y, 5);
            atom(m, 0, Y, X, 5);
            atom(m, 0, X, X, Y);
            m.add();
            fact(m, 0, 8, 7, 5);
            due("0(8, 7, 5), 0(7, 7, 8)", m.goals(1, 7, 8, 5), 3);
            due("0(9, 7, 5)", m.goals(1, 7, 9, 5), 2);
            due("0(ANY, 7, 5), 0(7, 7, 8)", m.goals(1, 7, ANY, 5), 3);
            due("0(ANY, ANY, 5), 0(7, 7, 8)", m.goals(1, ANY, ANY, ANY), 3);
        });
        says("but not for the value of a relation that is LEAST or GREATEST", () -> {
            for (int kind = LEAST; kind <= GREATEST; kind++) {
                DatalogMill m = valued();
                fact(m, 3, 1, 5);
                fact(m, 3, 1, 6);
                rule(m, FOLLOWS, kind, X, V);
                atom(m, 3, X, V);
                atom(m, 5, V);
                m.add();
                due("3(1, ANY), 5(5), 5(6)", m.goals(kind, 1, 5, 0), 4);
                due("3(2, ANY)", m.goals(kind, 2, 5, 0), 2);
                rule(m, FOLLOWS, 3, X, V);
                atom(m, 0, X, V, ANY);
                m.add();
                due("PLAIN: 0(1, 5, ANY)", m.goals(3, 1, 5, 0), 2);
            }
        });
        says("nor for the last column with COUNTS and SUMS.", () -> {
            DatalogMill m = plain(2, 2, 1);
            fact(m, 0, 1, 5);
            fact(m, 0, 1, 6);
            rule(m, SUMS, 1, X, Y);
            atom(m, 0, X, Y);
            atom(m, 2, Y);
            m.add();
            due("0(1, ANY), 2(5), 2(6)", m.goals(1, 1, 5, 0), 4);
            m.drop(0);
            rule(m, COUNTS, 1, X, 0);
            atom(m, 0, X, Y);
            atom(m, 2, Y);
            m.add();
            due("0(1, ANY), 2(5), 2(6)", m.goals(1, 1, 7, 0), 4);
        });
    }

    private static void goalsByNumbers() {
        says("(If a term of the head that is a number is another one than that of the goal", () -> {
            DatalogMill m = plain(1, 3);
            rule(m, FOLLOWS, 1, 1, 2, 3);
            atom(m, 0, 5);
            m.add();
            due("the same", m.goals(1, 1, 2, 3), 2);
            due("ANY", m.goals(1, ANY, ANY, ANY), 2);
            due("a", m.goals(1, 0, 2, 3), 1);
            due("b", m.goals(1, 1, 0, 3), 1);
            due("c", m.goals(1, 1, 2, 0), 1);
            due("c, else ANY", m.goals(1, ANY, ANY, 4), 1);
        });
        says("or one variable would get two numbers, this rule asks nothing", () -> {
            DatalogMill m = plain(1, 3);
            rule(m, FOLLOWS, 1, X, Y, X);
            atom(m, 0, X);
            m.reckon(Y, PLUS, X, 1);
            m.add();
            due("the same", m.goals(1, 5, 6, 5), 2);
            due("two", m.goals(1, 5, 5, 6), 1);
            due("one and ANY", m.goals(1, ANY, 6, 5), 2);
        });
        says("columns left out are not looked at.)", () -> {
            DatalogMill m = valued();
            rule(m, FOLLOWS, 1, X, 5);
            atom(m, 5, X);
            m.add();
            due("another value", m.goals(1, 1, 6, 0), 2);
            rule(m, FOLLOWS, 2, X, X);
            atom(m, 5, X);
            m.add();
            due("two numbers, one of a value", m.goals(2, 1, 6, 0), 2);
            rule(m, COUNTS, 3, X, 0);
            atom(m, 5, X);
            m.add();
            due("another count", m.goals(3, 1, 6, 0), 2);
            rule(m, SUMS, 0, X, 1, 7);
            atom(m, 5, X);
            m.add();
            due("another sum", m.goals(0, 1, 1, 6), 2);
            due("another group", m.goals(0, 1, 2, 7), 1);
        });
        says("Then for each atom of the body, negated or not", () -> {
            DatalogMill m = plain(1, 1);
            rule(m, FOLLOWS, 1, 5);
            not(m, 0, 1);
            atom(m, 0, 2);
            not(m, 0, 3);
            m.add();
            due("0(1), 0(2)", m.goals(1, 5, 0, 0), 3);
            fact(m, 0, 2);
            due("0(1), 0(2), 0(3)", m.goals(1, 5, 0, 0), 4);
            fact(m, 0, 1);
            due("0(1)", m.goals(1, 5, 0, 0), 2);
        });
        says("each way to give the variables of the literals ahead of it numbers so that these hold (by the rows that follow) "
                + "and that what was put in stays", () -> {
            DatalogMill m = plain(2, 1, 1);
            for (int i = 0; i < 10; i++) {
                fact(m, 0, i % 2, i);
            }
            rule(m, FOLLOWS, 2, X);
            atom(m, 0, X, Y);
            m.compare(LESS, Y, 6);
            atom(m, 1, Y);
            m.add();
            due("0(1, ANY), 1(1), 1(3), 1(5)", m.goals(2, 1, 0, 0), 5);
            due("0(ANY, ANY), 1(0) to 1(5)", m.goals(2, ANY, 0, 0), 8);
            rule(m, FOLLOWS, 2, X);
            m.reckon(X, PLUS, 3, 4);
            atom(m, 1, 9);
            m.add();
            due("what is made is not what was put in", m.goals(2, 1, 0, 0), 5);
            due("it is: 0(7, ANY), 1(9)", m.goals(2, 7, 0, 0), 3);
            DatalogMill n = plain(1, 1, 1);
            rule(n, FOLLOWS, 2, X);
            atom(n, 0, Y);
            n.reckon(X, PLUS, Y, 1);
            atom(n, 1, Y);
            n.add();
            for (int i = 0; i < 9; i++) {
                fact(n, 0, i);
            }
            for (int i = 1; i <= 9; i++) {
                due("0(ANY), 1 of just one", n.goals(2, i, 0, 0), 3);
            }
            due("0(ANY), 1 of each", n.goals(2, ANY, 0, 0), 11);
            rule(m, FOLLOWS, 0, 50, X);
            atom(m, 1, X);
            m.add();
            fact(m, 1, 60);
            due("rows that follow: 0(50, ANY), 1(ANY)", m.goals(2, 50, 0, 0), 3);
        });
        says("for each of its terms the number that it is or that its variable has by then", () -> {
            DatalogMill m = plain(3, 3);
            fact(m, 0, 1, 2, 3);
            rule(m, FOLLOWS, 1, X, Y, Z);
            atom(m, 0, X, Y, Z);
            atom(m, 0, Z, X, 9);
            m.add();
            due("0(1, 2, ANY), 0(3, 1, 9)", m.goals(1, 1, 2, ANY), 3);
            due("0(1, 2, 3), 0(3, 1, 9)", m.goals(1, 1, 2, 3), 3);
            rule(m, FOLLOWS, 1, X, Y, Z);
            atom(m, 0, 1, 2, 3);
            atom(m, 0, X, Y, Z);
            m.add();
            due("also 0(1, 2, 3), which is the same", m.goals(1, 1, 2, 3), 3);
            due("0(1, 2, ANY), 0(3, 1, 9), 0(1, 2, 3)", m.goals(1, 1, 2, ANY), 4);
        });
        says("ANY for others, and for the value of a relation that is LEAST or GREATEST.", () -> {
            DatalogMill m = valued();
            rule(m, FOLLOWS, 5, X);
            atom(m, 1, X, 5);
            m.add();
            rule(m, FOLLOWS, 5, X);
            atom(m, 1, X, X);
            m.add();
            rule(m, FOLLOWS, 5, X);
            atom(m, 1, X, ANY);
            m.add();
            due("1(7, ANY) of all three", m.goals(5, 7, 0, 0), 2);
            rule(m, FOLLOWS, 5, X);
            atom(m, 1, 8, X);
            m.add();
            due("1(8, ANY)", m.goals(5, 7, 0, 0), 3);
            m.drop(3);
            rule(m, FOLLOWS, 5, X);
            atom(m, 4, X);
            m.add();
            due("4(ANY)", m.goals(5, 7, 0, 0), 3);
            rule(m, FOLLOWS, 4, X);
            atom(m, 4, X);
            m.add();
            due("4(ANY)", m.goals(4, ANY, 0, 0), 1);
            due("4(3), which asks 4(ANY)", m.goals(4, 3, 0, 0), 2);
        });
    }

    // ---- exceptions

    private static void exceptions() {
        says("IndexOutOfBoundsException: there is no such relation, rule or place.", () -> {
            refused("relation", INDEX, () -> plain(1).count(1));
            refused("rule", INDEX, () -> plain(1).bindings(0));
            refused("place of a row", INDEX, () -> plain(1).rowAt(0, 0));
            refused("place of a repair", INDEX, () -> plain(1).repairAt(0));
        });
        says("IllegalArgumentException: another argument is out of its range.", () -> {
            refused("a row", ARGUMENT, () -> plain(1).holds(0, 100, 0, 0));
            refused("steps", ARGUMENT, () -> plain(1).pass(0));
            refused("a comparison", ARGUMENT, () -> drafted().compare(4, 0, 0));
        });
        says("IllegalStateException: as the method says.", () -> {
            refused("no such fact", STATE, () -> plain(1).takeBack(0, 1, 0, 0));
            refused("no draft", STATE, () -> plain(1).add());
        });
        says("If several exceptions of a throws clause apply, the one that is listed first is thrown.", () -> {
            DatalogMill six = plain(1, 1, 1, 1, 1, 1);
            refused("relation: columns, six", ARGUMENT, () -> six.relation(0, PLAIN));
            refused("relation: kind, six", ARGUMENT, () -> six.relation(1, 3));
            DatalogMill full = plain(1);
            for (int i = 0; i < 24; i++) {
                fact(full, 0, i);
            }
            refused("fact: relation, row, 24", INDEX, () -> full.fact(1, 100, 1, 1, 0, 0));
            refused("fact: row, 24", ARGUMENT, () -> full.fact(0, 100, 0, 0, 1, NONE));
            refused("fact: behind, 24", ARGUMENT, () -> full.fact(0, 1, 1, 0, 1, NONE));
            refused("fact: price, there it is", ARGUMENT, () -> full.fact(0, 5, 0, 0, 100, NONE));
            refused("fact: end, there it is", ARGUMENT, () -> full.fact(0, 5, 0, 0, 1, 0));
            refused("fact: 24 and there it is", STATE, () -> full.fact(0, 5, 0, 0, 1, NONE));
            refused("takeBack: relation, row", INDEX, () -> full.takeBack(1, 100, 0, 0));
            refused("takeBack: row, no such fact", ARGUMENT, () -> full.takeBack(0, 100, 0, 0));
            DatalogMill brink = brink();
            brink.fact(1, 8, 0, 0, 1, 2);
            brink.takeBack(1, 7, 0, 0);
            refused("pass: steps, too much", ARGUMENT, () -> brink.pass(101));
            refused("takeBack: behind, too much", ARGUMENT, () -> brink.takeBack(1, 8, 0, 1));
            refused("rule: relation, kind, terms", INDEX, () -> plain(1).rule(9, 1, 200, 200, 200));
            refused("rule: relation, terms", INDEX, () -> plain(1).rule(FOLLOWS, NONE, 200, 1, 1));
            refused("rule: relation with NEVER, terms", INDEX, () -> plain(1).rule(NEVER, 0, 1, 1, 1));
            refused("atom: relation, term, draft", INDEX, () -> plain(1).atom(1, false, 200, 0, 0));
            refused("atom: term, draft", ARGUMENT, () -> plain(1).atom(0, false, 200, 0, 0));
            refused("compare: comparison, draft", ARGUMENT, () -> plain(1).compare(4, 0, 0));
            refused("compare: term, draft", ARGUMENT, () -> plain(1).compare(SAME, 0, ANY));
            refused("reckon: variable, draft", ARGUMENT, () -> plain(1).reckon(0, PLUS, 0, 0));
            refused("reckon: reckoning, draft", ARGUMENT, () -> plain(1).reckon(X, 6, 0, 0));
            refused("reckon: term, draft", ARGUMENT, () -> plain(1).reckon(X, PLUS, 108, 0));
            On[] ofRow = {m -> m.holds(1, 100, 1, 1), m -> m.holdsAnew(1, 100, 1, 1), m -> m.answers(1, 100, 1, 1),
                m -> m.goals(1, 100, 1, 1), m -> m.ways(1, 100, 1, 1), m -> m.height(1, 100, 1, 1),
                m -> m.price(1, 100, 1, 1), m -> m.needs(1, 100, 1, 1), m -> m.reaches(0, 100, 1, 1)};
            for (int i = 0; i < ofRow.length; i++) {
                On call = ofRow[i];
                refused("relation or rule, row: " + i, INDEX, () -> call.make(plain(1)));
            }
        });
    }

    private static void nothingChanges() {
        says("A call that throws an exception changes nothing.", () -> {
            World draft = () -> drafted(brink());
            On[] index = {m -> m.fact(3, 1, 0, 0, 1, NONE), m -> m.takeBack(-1, 1, 0, 0), m -> m.rule(FOLLOWS, 3, 0, 0, 0),
                m -> m.rule(NEVER, 0, 0, 0, 0), m -> m.atom(3, false, 1, 0, 0), m -> m.drop(1), m -> m.layer(3),
                m -> m.count(3), m -> m.rowAt(0, 6), m -> m.holds(3, 0, 0, 0), m -> m.holdsAnew(3, 0, 0, 0),
                m -> m.answers(3, 0, 0, 0), m -> m.goals(3, 0, 0, 0), m -> m.ways(3, 0, 0, 0), m -> m.height(3, 0, 0, 0),
                m -> m.price(3, 0, 0, 0), m -> m.needs(3, 0, 0, 0), m -> m.reaches(1, 0, 0, 0), m -> m.bindings(1),
                m -> m.repairAt(0)};
            On[] argument = {m -> m.relation(4, PLAIN), m -> m.relation(1, 3), m -> m.fact(0, 100, 0, 0, 1, NONE),
                m -> m.fact(0, 9, 0, 0, 0, NONE), m -> m.fact(0, 9, 0, 0, 1, 0), m -> m.takeBack(0, 0, 1, 0),
                m -> m.pass(0), m -> m.pass(101), m -> m.rule(4, 0, 0, 0, 0), m -> m.rule(FOLLOWS, 0, ANY, 0, 0),
                m -> m.rule(FOLLOWS, 0, 1, 1, 0), m -> m.rule(NEVER, NONE, 0, 0, 1), m -> m.atom(0, false, -2, 0, 0),
                m -> m.compare(4, 1, 1), m -> m.compare(SAME, 1, ANY), m -> m.reckon(99, PLUS, 1, 1),
                m -> m.reckon(X, 6, 1, 1), m -> m.reckon(X, PLUS, ANY, 1), m -> m.holds(0, 100, 0, 0),
                m -> m.holdsAnew(0, 100, 0, 0), m -> m.answers(0, -2, 0, 0), m -> m.goals(0, -2, 0, 0),
                m -> m.ways(0, 100, 0, 0), m -> m.height(0, 100, 0, 0), m -> m.price(0, 100, 0, 0),
                m -> m.needs(0, 100, 0, 0), m -> m.reaches(0, 100, 0, 0)};
            On[] state = {m -> m.fact(0, 3, 0, 0, 7, NONE), m -> m.takeBack(0, 9, 0, 0), m -> m.takeBack(1, 7, 0, 0)};
            for (On call : index) {
                dueUnchanged(INDEX, draft, call);
            }
            for (On call : argument) {
                dueUnchanged(ARGUMENT, draft, call);
            }
            for (On call : state) {
                dueUnchanged(STATE, draft, call);
            }
            unchangedByFull();
            unchangedByTooMuch();
        });
    }

    /** The world with a draft that has one literal, as a rule for 1(30). */
    private static DatalogMill drafted(DatalogMill m) {
        rule(m, FOLLOWS, 1, 30);
        atom(m, 0, 3);
        return m;
    }

    /** What there is, and what becomes of the draft, whether the call was made or not. */
    private static void dueUnchanged(int exception, World world, On call) {
        DatalogMill untouched = world.make();
        DatalogMill touched = world.make();
        refused("the call", exception, () -> call.make(touched));
        due("what there is", stateOf(touched), stateOf(untouched));
        due("relations", touchedBy(touched, m -> m.relation(1, PLAIN)), touchedBy(untouched, m -> m.relation(1, PLAIN)));
        due("the draft", touchedBy(touched, m -> m.compare(SAME, 1, 1)), touchedBy(untouched, m -> m.compare(SAME, 1, 1)));
        due("the draft", touchedBy(touched, m -> m.add()), touchedBy(untouched, m -> m.add()));
        due("what there is with the draft", stateOf(touched), stateOf(untouched));
    }

    private static String touchedBy(DatalogMill m, On call) {
        return thrown(() -> call.make(m)) + " " + stateOf(m);
    }

    private static void unchangedByFull() {
        World facts = () -> {
            DatalogMill m = plain(1, 1, 1, 1, 1, 1);
            for (int i = 0; i < 24; i++) {
                fact(m, i % 6, i);
            }
            return drafted(m);
        };
        dueUnchanged(STATE, facts, m -> m.fact(0, 90, 0, 0, 1, NONE));
        dueUnchanged(STATE, facts, m -> m.relation(1, PLAIN));
        World rules = () -> {
            DatalogMill m = plain(1, 1);
            for (int i = 0; i < 10; i++) {
                always(m, 0, i);
            }
            return drafted(m);
        };
        dueUnchanged(STATE, rules, m -> m.add());
        World noDraft = () -> with(plain(1), 1);
        dueUnchanged(STATE, noDraft, m -> m.atom(0, false, 1, 0, 0));
        dueUnchanged(STATE, noDraft, m -> m.compare(SAME, 1, 1));
        dueUnchanged(STATE, noDraft, m -> m.reckon(X, PLUS, 1, 1));
        dueUnchanged(STATE, noDraft, m -> m.add());
        World empty = () -> {
            DatalogMill m = plain(1, 1);
            rule(m, FOLLOWS, 1, 30);
            return m;
        };
        dueUnchanged(STATE, empty, m -> m.add());
        World atoms = () -> {
            DatalogMill m = drafted(brink());
            atom(m, 0, 4);
            atom(m, 0, 4);
            return m;
        };
        dueUnchanged(STATE, atoms, m -> m.atom(0, false, 5, 0, 0));
        World literals = () -> {
            DatalogMill m = drafted(brink());
            for (int i = 0; i < 3; i++) {
                m.compare(SAME, 1, 1);
            }
            return m;
        };
        dueUnchanged(STATE, literals, m -> m.atom(0, false, 9, 0, 0));
        dueUnchanged(STATE, literals, m -> m.compare(SAME, 1, 2));
        dueUnchanged(STATE, literals, m -> m.reckon(X, PLUS, 1, 1));
        World counts = () -> {
            DatalogMill m = plain(1, 1);
            rule(m, COUNTS, 1, 0);
            atom(m, 0, X);
            m.add();
            return m;
        };
        dueUnchanged(ARGUMENT, counts, m -> m.reaches(0, 0, 0, 0));
    }

    private static void unchangedByTooMuch() {
        World fact = () -> {
            DatalogMill m = brink();
            m.takeBack(0, 5, 0, 0);
            m.takeBack(1, 7, 0, 0);
            return drafted(m);
        };
        dueUnchanged(STATE, fact, m -> m.fact(0, 2, 0, 0, 1, NONE));
        dueUnchanged(STATE, fact, m -> m.fact(0, 50, 0, 0, 1, 4));
        World pass = () -> {
            DatalogMill m = brink();
            m.fact(1, 8, 0, 0, 1, 2);
            m.takeBack(1, 7, 0, 0);
            return drafted(m);
        };
        dueUnchanged(STATE, pass, m -> m.pass(2));
        dueUnchanged(STATE, pass, m -> m.pass(100));
        World drop = () -> {
            DatalogMill m = brink();
            always(m, 1, 9);
            always(m, 0, 2);
            m.takeBack(1, 7, 0, 0);
            return drafted(m);
        };
        dueUnchanged(STATE, drop, m -> m.drop(1));
        dueUnchanged(INDEX, drop, m -> m.drop(3));
        for (int i = 0; i < 4; i++) {
            int guard = i;
            dueUnchanged(STATE, () -> guarded(guard), m -> m.drop(guard));
        }
    }

    /** Four rules, of which this one keeps the pairs of 0 away by a row of 1, and lifts 1 to 4 by a layer. */
    private static DatalogMill guarded(int guard) {
        DatalogMill m = plain(1, 1, 2);
        m.relation(2, LEAST);
        m.relation(1, PLAIN);
        for (int i = 0; i < 6; i++) {
            fact(m, 0, i);
        }
        fact(m, 3, 8, 1);
        fact(m, 3, 9, 1);
        int told = 0;
        for (int i = 0; i < 4; i++) {
            if (i == guard) {
                rule(m, FOLLOWS, 1, X);
                atom(m, 3, X, ANY);
                m.compare(LESS, X, 10);
            } else if (told == 0) {
                rule(m, FOLLOWS, 4, X);
                atom(m, 1, X);
                told++;
            } else if (told == 1) {
                rule(m, FOLLOWS, 4, X);
                atom(m, 3, X, ANY);
                told++;
            } else {
                rule(m, FOLLOWS, 3, X, V);
                atom(m, 3, X, V);
            }
            due("add", m.add(), i);
        }
        due("the guard's row hangs on one of two facts", m.needs(1, 9, 0, 0), 1);
        rule(m, FOLLOWS, 2, X, Y);
        atom(m, 0, X);
        atom(m, 0, Y);
        not(m, 1, ANY);
        due("add", m.add(), 4);
        due("layer", m.layer(2), 2);
        return drafted(m);
    }

    private static void constants() {
        says("The constants: `NONE = -1`: There is none.", () -> due("NONE", DatalogMill.NONE, -1));
        says("`ANY = -1`: Whatever number.", () -> due("ANY", DatalogMill.ANY, -1));
        says("`PLAIN = 0, LEAST = 1, GREATEST = 2`: Kinds of relations.", () -> {
            due("PLAIN", DatalogMill.PLAIN, 0);
            due("LEAST", DatalogMill.LEAST, 1);
            due("GREATEST", DatalogMill.GREATEST, 2);
        });
        says("`FOLLOWS = 0, COUNTS = 1, SUMS = 2, NEVER = 3`: Kinds of rules.", () -> {
            due("FOLLOWS", DatalogMill.FOLLOWS, 0);
            due("COUNTS", DatalogMill.COUNTS, 1);
            due("SUMS", DatalogMill.SUMS, 2);
            due("NEVER", DatalogMill.NEVER, 3);
        });
        says("`SAME = 0, UNLIKE = 1, LESS = 2, AT_MOST = 3`: Comparisons.", () -> {
            due("SAME", DatalogMill.SAME, 0);
            due("UNLIKE", DatalogMill.UNLIKE, 1);
            due("LESS", DatalogMill.LESS, 2);
            due("AT_MOST", DatalogMill.AT_MOST, 3);
        });
        says("Reckonings: the sum; the first less the second; the product; the lesser; the greater; the rest of the first by the "
                + "second.", () -> {
            due("PLUS", DatalogMill.PLUS, 0);
            due("MINUS", DatalogMill.MINUS, 1);
            due("TIMES", DatalogMill.TIMES, 2);
            due("LESSER", DatalogMill.LESSER, 3);
            due("GREATER", DatalogMill.GREATER, 4);
            due("REST", DatalogMill.REST, 5);
            int[] due = {36, 14, 99, 11, 25, 3};
            for (int reckoning = PLUS; reckoning <= REST; reckoning++) {
                due("of 25 and 11", made(reckoning, 25, 11), due[reckoning]);
            }
        });
        says("`UNSAFE = -2, LAYERLESS = -3, SHRINKING = -4, TOO_MUCH = -5`: Why a rule is refused.", () -> {
            due("UNSAFE", DatalogMill.UNSAFE, -2);
            due("LAYERLESS", DatalogMill.LAYERLESS, -3);
            due("SHRINKING", DatalogMill.SHRINKING, -4);
            due("TOO_MUCH", DatalogMill.TOO_MUCH, -5);
        });
        // FaceTest looks for these lines in the source.
        isFree("Ahead of the calls `relation`, `fact`");
        isFree("Ahead of the calls `rule`, `atom`");
        isFree("Ahead of the calls `count`, `rowAt`");
        isFree("Ahead of the calls `ways`, `height`");
        isFree("Ahead of the calls `bindings`, `repair`");
    }
}
