import java.util.Arrays;

/** Of the document's terms: what rules, literals, bindings and groups are, and when a rule is refused. */
final class RuleTerms extends Sentences {
    private RuleTerms() {
    }

    static void run() {
        rulesAndTerms();
        literals();
        bindings();
        groups();
        growing();
        unsafe();
        layerless();
        shrinking();
        fallingAndRising();
    }

    private static void rulesAndTerms() {
        says("There can be 10 rules at one time; rules are numbered from 0 as they are added, and a number is not used anew.",
                () -> {
            DatalogMill m = plain(1);
            for (int i = 0; i < 10; i++) {
                due("add", always(m, 0, i), i);
            }
            refused("an eleventh", STATE, () -> always(m, 0, 10));
            m.drop(9);
            due("the number of the last one is not used anew", always(m, 0, 10), 10);
            m.drop(0);
            due("nor that of the first one", always(m, 0, 11), 11);
            m.drop(11);
            rule(m, FOLLOWS, 0, X);
            m.compare(SAME, 1, 1);
            due("refused", m.add(), UNSAFE);
            due("what is refused gets none", always(m, 0, 12), 12);
        });
        says("A rule has a kind, FOLLOWS, COUNTS, SUMS or NEVER, a head, but for NEVER", () -> {
            for (int kind = -1; kind <= 4; kind++) {
                int k = kind;
                refused("kind " + k + " with a head", k == NEVER ? INDEX : k < 0 || k > 3 ? ARGUMENT : 0,
                        () -> plain(1).rule(k, 0, 0, 0, 0));
                refused("kind " + k + " without", k == NEVER ? 0 : k < 0 || k > 3 ? ARGUMENT : INDEX,
                        () -> plain(1).rule(k, NONE, 0, 0, 0));
            }
        });
        says("and a body of 1 to 4 literals, of which at most 3 are atoms.", () -> {
            for (int atoms = 0; atoms <= 4; atoms++) {
                for (int others = 0; atoms + others <= 5; others++) {
                    int n = atoms;
                    int k = others;
                    boolean isTooLong = n > 3 || n + k > 4;
                    refused(n + " atoms, " + k + " others", isTooLong || n + k == 0 ? STATE : 0, () -> {
                        DatalogMill m = plain(1);
                        never(m);
                        for (int i = 0; i < k; i++) {
                            m.compare(SAME, 1, 1);
                        }
                        for (int i = 0; i < n; i++) {
                            m.atom(0, i % 2 == 1, 5, 0, 0);
                        }
                        m.add();
                    });
                }
            }
        });
        says("a body of 1 to 4 literals", () -> {
            for (int last = 0; last < 4; last++) {
                DatalogMill m = with(plain(1, 1, 1), 3, 4);
                fact(m, 1, 4);
                for (int kind = FOLLOWS; kind <= SUMS; kind++) {
                    rule(m, kind, 2, kind == FOLLOWS ? Z : kind == COUNTS ? 0 : 50);
                    for (int i = 0; i < 4; i++) {
                        if (i == last) {
                            atom(m, 0, Z);
                        } else if (i == 3 - last) {
                            not(m, 1, 3);
                        } else if (i == (last + 1) % 4 || i == (last + 3) % 4) {
                            atom(m, 0, ANY);
                        } else {
                            m.compare(SAME, 1, 1);
                        }
                    }
                    due("add", m.add(), kind);
                    due("bindings", m.bindings(kind), 2);
                }
                dueRows(m, 2, 20000, 30000, 40000, 990000);
                due("ways", m.ways(2, 4, 0, 0), 1);
                due("height", m.height(2, 3, 0, 0), 1);
                due("price of 2 atoms", m.price(2, 3, 0, 0), 3);
                due("reaches", m.reaches(0, 4, 0, 0), 4);
            }
        });
        says("A term is a number from 0 to 99; a variable, which is told as 100 to 107; or ANY, in atoms alone.", () -> {
            for (int term = -3; term <= 110; term++) {
                int t = term;
                boolean isTerm = t >= 0 && t <= 107;
                refused("in an atom " + t, isTerm || t == ANY ? 0 : ARGUMENT, () -> drafted().atom(0, false, t, 0, 0));
                refused("in a negated atom " + t, isTerm || t == ANY ? 0 : ARGUMENT, () -> drafted().atom(0, true, t, 0, 0));
                refused("left in a comparison " + t, isTerm ? 0 : ARGUMENT, () -> drafted().compare(SAME, t, 0));
                refused("right in a comparison " + t, isTerm ? 0 : ARGUMENT, () -> drafted().compare(SAME, 0, t));
                refused("left in a reckoning " + t, isTerm ? 0 : ARGUMENT, () -> drafted().reckon(X, PLUS, t, 0));
                refused("right in a reckoning " + t, isTerm ? 0 : ARGUMENT, () -> drafted().reckon(X, PLUS, 0, t));
                refused("made by a reckoning " + t, isTerm && t >= 100 ? 0 : ARGUMENT, () -> drafted().reckon(t, PLUS, 0, 0));
                refused("in a head " + t, isTerm ? 0 : ARGUMENT, () -> plain(1).rule(FOLLOWS, 0, t, 0, 0));
            }
        });
        says("a variable, which is told as 100 to 107", () -> {
            for (int v = X; v <= LAST; v++) {
                for (int w = X; w <= LAST; w++) {
                    if (v != w) {
                        dueVariables(v, w);
                    }
                }
            }
        });
        says("The head has a relation, and a term for each of its columns, none of them ANY.", () -> {
            for (int columns = 1; columns <= 3; columns++) {
                for (int behind = 1; behind <= 3; behind++) {
                    int[] head = {7, behind > 1 ? 7 : 0, behind > 2 ? 7 : 0};
                    int c = columns;
                    int due = behind <= columns ? 0 : ARGUMENT;
                    refused(behind + " terms for " + c, due, () -> plain(c).rule(FOLLOWS, 0, head[0], head[1], head[2]));
                    head[behind - 1] = ANY;
                    refused("ANY as term " + behind, ARGUMENT, () -> plain(c).rule(SUMS, 0, head[0], head[1], head[2]));
                }
            }
        });
    }

    /** Two variables in each place where one can stand. */
    private static void dueVariables(int v, int w) {
        DatalogMill m = plain(2, 2, 1);
        fact(m, 0, 3, 4);
        fact(m, 0, 5, 7);
        rule(m, FOLLOWS, 1, w, v);
        atom(m, 0, v, ANY);
        m.reckon(w, PLUS, v, v);
        m.compare(LESS, w, 10);
        not(m, 0, v, w);
        due("add", m.add(), 0);
        dueRows(m, 1, 60300);
        rule(m, FOLLOWS, 1, v, w);
        atom(m, 0, v, w);
        m.compare(AT_MOST, w, 6);
        due("add", m.add(), 1);
        dueRows(m, 1, 30400, 60300);
        rule(m, SUMS, 2, w);
        atom(m, 0, v, w);
        due("add", m.add(), 2);
        dueRows(m, 2, 110000);
        due("goals: 1(6, 3), 0(3, ANY), 0(3, 6), 0(6, 3)", m.goals(1, 6, 3, 0), 4);
        due("reaches", m.reaches(0, 10, 5, 0), 2);
        due("reaches", m.reaches(1, 5, 7, 0), 1);
        due("ways", m.ways(1, 6, 3, 0), 1);
        due("bindings", m.bindings(1), 1);
    }

    static DatalogMill drafted() {
        DatalogMill m = plain(1);
        never(m);
        return m;
    }

    /** How many bindings a NEVER rule has that is made of these literals. */
    private static int boundBy(DatalogMill m, On... literals) {
        never(m);
        for (On literal : literals) {
            literal.make(m);
        }
        int number = m.add();
        int bound = m.bindings(number);
        m.drop(number);
        return bound;
    }

    static int made(int reckoning, int left, int right) {
        DatalogMill m = plain(1);
        rule(m, FOLLOWS, 0, X);
        m.reckon(X, reckoning, left, right);
        due("add", m.add(), 0);
        return m.rowAt(0, 0) / 10000;
    }

    private static void literals() {
        isFree("A literal is one of these:");
        says("- an atom: a relation, a term for each of its columns, and whether it is negated;", () -> {
            DatalogMill m = plain(3, 1);
            fact(m, 0, 1, 2, 3);
            fact(m, 0, 1, 2, 4);
            fact(m, 1, 1);
            due("of relation 0", boundBy(m, x -> atom(x, 0, 1, 2, 3)), 1);
            due("of relation 1", boundBy(m, x -> atom(x, 1, 2)), 0);
            due("a", boundBy(m, x -> atom(x, 0, 0, 2, 3)), 0);
            due("b", boundBy(m, x -> atom(x, 0, 1, 3, 3)), 0);
            due("c", boundBy(m, x -> atom(x, 0, 1, 2, 5)), 0);
            due("negated", boundBy(m, x -> not(x, 0, 1, 2, 5)), 1);
            due("negated", boundBy(m, x -> not(x, 0, 1, 2, 4)), 0);
        });
        says("- a comparison of two terms: SAME, UNLIKE, LESS, or AT_MOST;", () -> {
            int[] numbers = {0, 1, 49, 50, 98, 99};
            for (int x : numbers) {
                for (int y : numbers) {
                    due(x + " SAME " + y, boundBy(plain(1), m -> m.compare(SAME, x, y)), x == y ? 1 : 0);
                    due(x + " UNLIKE " + y, boundBy(plain(1), m -> m.compare(UNLIKE, x, y)), x != y ? 1 : 0);
                    due(x + " LESS " + y, boundBy(plain(1), m -> m.compare(LESS, x, y)), x < y ? 1 : 0);
                    due(x + " AT_MOST " + y, boundBy(plain(1), m -> m.compare(AT_MOST, x, y)), x <= y ? 1 : 0);
                }
            }
        });
        says("- a reckoning: a variable, and two terms of which one of these is made", () -> {
            due("PLUS", made(PLUS, 17, 5), 22);
            due("MINUS", made(MINUS, 17, 5), 12);
            due("TIMES", made(TIMES, 17, 5), 85);
            due("LESSER", made(LESSER, 17, 5), 5);
            due("LESSER", made(LESSER, 5, 17), 5);
            due("GREATER", made(GREATER, 17, 5), 17);
            due("GREATER", made(GREATER, 5, 17), 17);
            due("REST", made(REST, 17, 5), 2);
            due("REST", made(REST, 5, 17), 5);
            due("REST", made(REST, 15, 5), 0);
            due("REST", made(REST, 99, 1), 0);
        });
        says("What is below 0 becomes 0", () -> {
            due("5 - 4", made(MINUS, 5, 4), 1);
            due("5 - 5", made(MINUS, 5, 5), 0);
            due("5 - 6", made(MINUS, 5, 6), 0);
            due("0 - 99", made(MINUS, 0, 99), 0);
        });
        says("what is above 99 becomes 99", () -> {
            due("98 + 0", made(PLUS, 98, 0), 98);
            due("98 + 1", made(PLUS, 98, 1), 99);
            due("98 + 2", made(PLUS, 98, 2), 99);
            due("99 + 99", made(PLUS, 99, 99), 99);
            due("14 * 7", made(TIMES, 14, 7), 98);
            due("11 * 9", made(TIMES, 11, 9), 99);
            due("10 * 10", made(TIMES, 10, 10), 99);
            due("99 * 99", made(TIMES, 99, 99), 99);
        });
        says("the rest of a division by 0 is 0.", () -> {
            for (int n : new int[] {0, 1, 99}) {
                due(n + " by 0", made(REST, n, 0), 0);
            }
            due("0 by 7", made(REST, 0, 7), 0);
        });
    }

    private static void bindings() {
        says("A binding of a rule gives each variable of its body a number, so that each literal holds", () -> {
            DatalogMill m = plain(2, 1);
            fact(m, 0, 1, 5);
            fact(m, 0, 1, 6);
            fact(m, 0, 2, 6);
            fact(m, 1, 6);
            due("X and Y", boundBy(m, x -> atom(x, 0, X, Y)), 3);
            due("X alone: 1 and 2", boundBy(m, x -> atom(x, 0, X, ANY)), 2);
            due("no variable", boundBy(m, x -> atom(x, 0, ANY, ANY)), 1);
            due("both literals", boundBy(m, x -> atom(x, 0, X, Y), x -> atom(x, 1, Y)), 2);
            due("what is made is of no choice", boundBy(m, x -> atom(x, 1, Y), x -> x.reckon(X, PLUS, Y, 1)), 1);
        });
        says("if its relation has a row that fits, which is one that has for each term that is a number, or a variable "
                + "with this number, the same number in its column", () -> {
            DatalogMill m = plain(3);
            fact(m, 0, 4, 4, 5);
            fact(m, 0, 4, 5, 5);
            fact(m, 0, 5, 5, 5);
            due("one variable twice", boundBy(m, x -> atom(x, 0, X, X, Y)), 2);
            due("one variable thrice", boundBy(m, x -> atom(x, 0, X, X, X)), 1);
            due("a number", boundBy(m, x -> atom(x, 0, 4, X, Y)), 2);
            due("what is known", boundBy(m, x -> x.reckon(X, PLUS, 2, 2), x -> atom(x, 0, X, X, Y)), 1);
            due("what is known, elsewhere", boundBy(m, x -> x.reckon(X, PLUS, 2, 2), x -> atom(x, 0, Y, Z, X)), 0);
        });
        says("(whatever it has for ANY)", () -> {
            DatalogMill m = plain(3);
            fact(m, 0, 4, 0, 5);
            fact(m, 0, 4, 99, 5);
            fact(m, 0, 4, 7, 6);
            due("in the middle", boundBy(m, x -> atom(x, 0, X, ANY, Y)), 2);
            due("first and last", boundBy(m, x -> atom(x, 0, ANY, X, ANY)), 3);
            due("first and in the middle", boundBy(m, x -> atom(x, 0, ANY, ANY, 5)), 1);
            due("first", boundBy(m, x -> atom(x, 0, ANY, X, Y)), 3);
            fact(m, 0, 3, 0, 5);
            fact(m, 0, 3, 1, 5);
            fact(m, 0, 4, 0, 6);
            due("in the middle", boundBy(m, x -> atom(x, 0, X, ANY, Y)), 3);
            due("last", boundBy(m, x -> atom(x, 0, X, Y, ANY)), 5);
            due("first", boundBy(m, x -> atom(x, 0, ANY, X, Y)), 5);
            due("in the middle and last", boundBy(m, x -> atom(x, 0, X, ANY, ANY)), 2);
            due("negated, with one", boundBy(m, x -> not(x, 0, ANY, 99, ANY)), 0);
            due("negated, with none", boundBy(m, x -> not(x, 0, ANY, 98, ANY)), 1);
        });
        says("a negated atom, if its relation has no row that fits", () -> {
            DatalogMill m = plain(1, 1);
            due("of no rows", boundBy(m, x -> not(x, 1, ANY)), 1);
            fact(m, 0, 4);
            fact(m, 0, 5);
            fact(m, 1, 5);
            due("of some", boundBy(m, x -> not(x, 1, ANY)), 0);
            due("4, not 5", boundBy(m, x -> atom(x, 0, X), x -> not(x, 1, X)), 1);
            due("neither", boundBy(m, x -> atom(x, 0, X), x -> not(x, 0, X)), 0);
        });
        says("a comparison, if it is so", () -> {
            DatalogMill m = with(plain(1), 4, 5, 6);
            due("SAME", boundBy(m, x -> atom(x, 0, X), x -> x.compare(SAME, X, 5)), 1);
            due("UNLIKE", boundBy(m, x -> atom(x, 0, X), x -> x.compare(UNLIKE, 5, X)), 2);
            due("LESS", boundBy(m, x -> atom(x, 0, X), x -> atom(x, 0, Y), x -> x.compare(LESS, X, Y)), 3);
            due("AT_MOST", boundBy(m, x -> atom(x, 0, X), x -> atom(x, 0, Y), x -> x.compare(AT_MOST, X, Y)), 6);
        });
        says("a reckoning, if the variable has the number that is made", () -> {
            DatalogMill m = with(plain(1), 4, 5, 6);
            due("then in an atom", boundBy(m, x -> atom(x, 0, X), x -> x.reckon(Y, PLUS, X, 1), x -> atom(x, 0, Y)), 2);
            due("then compared", boundBy(m, x -> atom(x, 0, X), x -> x.reckon(Y, MINUS, X, 5), x -> x.compare(SAME, Y, 0)), 2);
        });
        says("With FOLLOWS each binding makes the row of the head, with the numbers of the variables.", () -> {
            DatalogMill m = plain(2, 3);
            fact(m, 0, 1, 2);
            fact(m, 0, 3, 4);
            rule(m, FOLLOWS, 1, Y, 7, X);
            atom(m, 0, X, Y);
            m.add();
            dueRows(m, 1, 20701, 40703);
            rule(m, FOLLOWS, 1, X, X, X);
            atom(m, 0, X, ANY);
            m.add();
            dueRows(m, 1, 10101, 20701, 30303, 40703);
        });
        says("Rules that are NEVER make no rows.", () -> {
            DatalogMill m = with(plain(1), 4);
            never(m);
            atom(m, 0, X);
            due("add", m.add(), 0);
            due("came", m.came(), 0);
            due("went", m.went(), 0);
            dueRows(m, 0, 40000);
            due("layer", m.layer(0), 0);
            due("ways", m.ways(0, 4, 0, 0), 1);
            due("goals", m.goals(0, 4, 0, 0), 1);
        });
    }

    private static void groups() {
        says("With COUNTS and SUMS the bindings are put into groups by what the terms of the head but the last one are then",
                () -> {
            DatalogMill m = plain(3, 3, 2, 1);
            fact(m, 0, 1, 2, 3);
            fact(m, 0, 1, 2, 4);
            fact(m, 0, 1, 3, 3);
            fact(m, 0, 2, 2, 3);
            rule(m, COUNTS, 1, X, Y, 0);
            atom(m, 0, X, Y, Z);
            m.add();
            dueRows(m, 1, 10202, 10301, 20201);
            rule(m, COUNTS, 2, X, 0);
            atom(m, 0, X, Y, Z);
            m.add();
            dueRows(m, 2, 10300, 20100);
            rule(m, SUMS, 3, Z);
            atom(m, 0, X, Y, Z);
            m.add();
            dueRows(m, 3, 130000);
            rule(m, SUMS, 2, 9, Y);
            atom(m, 0, X, Y, Z);
            m.add();
            dueRows(m, 2, 10300, 20100, 90900);
        });
        says("each group makes one row, whose last number is, with COUNTS, how many bindings it has", () -> {
            DatalogMill m = plain(2, 1, 1, 1);
            rule(m, COUNTS, 1, 0);
            atom(m, 0, X, Y);
            m.add();
            rule(m, COUNTS, 2, 0);
            atom(m, 0, X, ANY);
            m.add();
            due("no binding, no group", m.count(1), 0);
            for (int i = 0; i < 24; i++) {
                fact(m, 0, i / 8, i);
                dueRows(m, 1, (i + 1) * 10000);
                dueRows(m, 2, (i / 8 + 1) * 10000);
            }
        });
        says("with SUMS the sum of what the last term of the head is for each of them", () -> {
            DatalogMill m = plain(2, 1, 1, 1);
            rule(m, SUMS, 1, Y);
            atom(m, 0, X, Y);
            m.add();
            rule(m, SUMS, 2, 3);
            atom(m, 0, X, Y);
            m.add();
            rule(m, SUMS, 3, Y);
            atom(m, 0, ANY, Y);
            m.add();
            due("no binding, no group", m.count(1), 0);
            fact(m, 0, 1, 0);
            dueRows(m, 1, 0);
            dueRows(m, 2, 30000);
            fact(m, 0, 1, 7);
            fact(m, 0, 2, 7);
            dueRows(m, 1, 140000);
            dueRows(m, 2, 90000);
            dueRows(m, 3, 70000);
        });
        says("for each of them; what is above 99 becomes 99.", () -> {
            for (int last : new int[] {8, 9, 10, 99}) {
                DatalogMill m = plain(2, 1);
                for (int i = 0; i < 9; i++) {
                    fact(m, 0, i, 10);
                }
                fact(m, 0, 10, last);
                rule(m, SUMS, 1, Y);
                atom(m, 0, X, Y);
                m.add();
                dueRows(m, 1, Math.min(99, 90 + last) * 10000);
            }
            DatalogMill two = plain(2, 1, 3);
            fact(two, 0, 1, 0);
            fact(two, 0, 1, 1);
            for (int i = 0; i < 10; i++) {
                fact(two, 1, i);
            }
            rule(two, COUNTS, 2, X, Y, 0);
            atom(two, 0, X, Y);
            atom(two, 1, Z);
            atom(two, 1, W);
            two.add();
            dueRows(two, 2, 10099, 10199);
            int[][] sides = {{9, 11}, {10, 10}, {7, 14}, {12, 12}};
            for (int[] side : sides) {
                DatalogMill m = plain(1, 1, 1);
                for (int i = 0; i < side[0]; i++) {
                    fact(m, 0, i);
                }
                for (int i = 0; i < side[1]; i++) {
                    fact(m, 1, i);
                }
                rule(m, COUNTS, 2, 0);
                atom(m, 0, X);
                atom(m, 1, Y);
                m.add();
                dueRows(m, 2, Math.min(99, side[0] * side[1]) * 10000);
            }
        });
    }

    // ---- what is refused

    private static void growing() {
        says("Of a rule and an atom of it that is not negated, whose relation is LEAST or GREATEST and of one circle with that of "
                + "the head, the value term is a growing one: it falls with LEAST, and rises with GREATEST, as rows are found.",
                () -> {
            DatalogMill m = valued();
            due("LEAST, in the circle", triedPair(m, 1, X, 3, x -> atom(x, 1, X, 7)), SHRINKING);
            due("GREATEST, in the circle", triedPair(m, 2, X, 3, x -> atom(x, 2, X, 7)), SHRINKING);
            due("PLAIN, in the circle", triedPair(m, 3, X, 3, x -> atom(x, 3, X, 7)), 0);
            due("LEAST, not in the circle", triedPair(m, 2, X, 3, x -> atom(x, 1, X, 7)), 0);
            due("GREATEST, not in the circle", triedPair(m, 1, X, 3, x -> atom(x, 2, X, 7)), 0);
            due("the key is none", triedPair(m, 1, 5, 3, x -> atom(x, 1, 7, ANY)), 0);
            due("what falls may be less", triedPair(m, 1, X, V, x -> atom(x, 1, X, V), x -> x.compare(LESS, V, 7)), 0);
            due("what rises may be more", triedPair(m, 2, X, V, x -> atom(x, 2, X, V), x -> x.compare(LESS, 7, V)), 0);
            due("what falls may not be more", triedPair(m, 1, X, V, x -> atom(x, 1, X, V), x -> x.compare(LESS, 7, V)),
                    SHRINKING);
            due("what rises may not be less", triedPair(m, 2, X, V, x -> atom(x, 2, X, V), x -> x.compare(LESS, V, 7)),
                    SHRINKING);
        });
    }

    private static void unsafe() {
        says("The literals of a rule are looked at in their order.", () -> {
            due("known ahead", tried(plain(1), 0, X, x -> atom(x, 0, X), x -> x.compare(SAME, X, 1)), 0);
            due("known behind", tried(plain(1), 0, X, x -> x.compare(SAME, X, 1), x -> atom(x, 0, X)), UNSAFE);
        });
        says("A variable is known behind an atom that is not negated and has it, and behind a reckoning for it.", () -> {
            due("by an atom", tried(plain(1), 0, X, x -> atom(x, 0, X)), 0);
            due("by another one", tried(plain(1), 0, X, x -> atom(x, 0, Y)), UNSAFE);
            due("by a reckoning", tried(plain(1), 0, X, x -> x.reckon(X, PLUS, 1, 1)), 0);
            due("by another one", tried(plain(1), 0, X, x -> x.reckon(Y, PLUS, 1, 1)), UNSAFE);
            due("by a comparison with what is known", tried(plain(1), 0, X, x -> x.compare(SAME, X, 1)), UNSAFE);
            due("then in an atom again", tried(plain(1), 0, X, x -> x.reckon(X, PLUS, 1, 1), x -> atom(x, 0, X)), 0);
            for (int column = 0; column < 3; column++) {
                int[] terms = {ANY, ANY, ANY};
                terms[column] = X;
                due("by column " + column, tried(plain(1, 3), 0, X, x -> atom(x, 1, terms)), 0);
            }
        });
        says("a variable in a negated atom", () -> {
            due("not known", tried(plain(1, 1), 0, 5, x -> not(x, 1, X)), UNSAFE);
            due("not known, then known", tried(plain(1, 1), 0, X, x -> not(x, 1, X), x -> atom(x, 0, X)), UNSAFE);
            due("known", tried(plain(1, 1), 0, X, x -> atom(x, 0, X), x -> not(x, 1, X)), 0);
            for (int column = 0; column < 3; column++) {
                int[] terms = {ANY, 7, ANY};
                due("none", tried(plain(1, 3), 0, 5, x -> not(x, 1, terms)), 0);
                terms[column] = X;
                due("in column " + column, tried(plain(1, 3), 0, 5, x -> not(x, 1, terms)), UNSAFE);
            }
        });
        says("in a comparison", () -> {
            for (int comparison = SAME; comparison <= AT_MOST; comparison++) {
                int c = comparison;
                due("left", tried(plain(1), 0, 5, x -> x.compare(c, X, 1)), UNSAFE);
                due("right", tried(plain(1), 0, 5, x -> x.compare(c, 1, X)), UNSAFE);
                due("both the same", tried(plain(1), 0, 5, x -> x.compare(c, X, X)), UNSAFE);
                due("none", tried(plain(1), 0, 5, x -> x.compare(c, 1, 1)), 0);
            }
        });
        says("or among the two terms of a reckoning is not known ahead of it", () -> {
            for (int reckoning = PLUS; reckoning <= REST; reckoning++) {
                int r = reckoning;
                due("left", tried(plain(1), 0, 5, x -> x.reckon(Y, r, X, 1)), UNSAFE);
                due("right", tried(plain(1), 0, 5, x -> x.reckon(Y, r, 1, X)), UNSAFE);
                due("its own", tried(plain(1), 0, 5, x -> x.reckon(X, r, X, 1)), UNSAFE);
                due("known", tried(plain(1), 0, 5, x -> atom(x, 0, X), x -> x.reckon(Y, r, X, X)), 0);
            }
        });
        says("the variable for which a reckoning is made is known ahead of it", () -> {
            due("by an atom", tried(plain(1), 0, X, x -> atom(x, 0, X), x -> x.reckon(X, PLUS, 1, 1)), UNSAFE);
            due("by a reckoning", tried(plain(1), 0, X, x -> x.reckon(X, PLUS, 1, 1), x -> x.reckon(X, PLUS, 1, 1)), UNSAFE);
            due("only behind it", tried(plain(1), 0, X, x -> x.reckon(X, PLUS, 1, 1), x -> atom(x, 0, X)), 0);
        });
        says("a variable of the head is not known behind all.", () -> {
            for (int column = 0; column < 3; column++) {
                for (int kind = FOLLOWS; kind <= SUMS; kind++) {
                    DatalogMill m = plain(3, 1);
                    int[] head = {5, 5, kind == COUNTS ? 0 : 5};
                    rule(m, kind, 0, head);
                    atom(m, 1, Y);
                    due("none, kind " + kind, m.add(), 0);
                    head[column] = X;
                    rule(m, kind, 0, head);
                    atom(m, 1, Y);
                    due("column " + column + ", kind " + kind, m.add(), UNSAFE);
                }
            }
            due("known by the last literal", tried(plain(1), 0, X, x -> x.compare(SAME, 1, 1), x -> atom(x, 0, Y),
                    x -> x.compare(SAME, 1, 1), x -> atom(x, 0, X)), 0);
        });
        says("A COUNTS rule must have 0 as the last term of its head; otherwise it is UNSAFE, too.", () -> {
            for (int columns = 1; columns <= 3; columns++) {
                for (int term : new int[] {0, 1, 99, X}) {
                    DatalogMill m = plain(columns, 1);
                    int[] head = new int[columns];
                    head[columns - 1] = term;
                    rule(m, COUNTS, 0, head);
                    atom(m, 1, X);
                    due(columns + " columns, " + term, m.add(), term == 0 ? 0 : UNSAFE);
                    Arrays.fill(head, X);
                    head[columns - 1] = 0;
                    rule(m, COUNTS, 0, head);
                    atom(m, 1, X);
                    due(columns + " columns, others", m.add(), term == 0 ? 1 : 0);
                }
            }
            DatalogMill m = plain(2, 1);
            rule(m, SUMS, 0, X, 7);
            atom(m, 1, X);
            due("SUMS may have another one", m.add(), 0);
        });
    }

    private static void layerless() {
        says("Rules are LAYERLESS, if by the new one some relation is of one circle with a relation of a negated atom", () -> {
            due("itself", tried(plain(1, 1), 0, 5, x -> not(x, 0, 7)), LAYERLESS);
            due("another one", tried(plain(1, 1), 0, 5, x -> not(x, 1, 7)), 0);
            DatalogMill m = plain(1, 1, 1);
            rule(m, FOLLOWS, 1, 5);
            not(m, 0, 5);
            m.add();
            due("the negated atom is an older rule's", tried(m, 0, 5, x -> atom(x, 1, 5)), LAYERLESS);
            due("the new one closes no circle", tried(m, 2, 5, x -> atom(x, 1, 5), x -> atom(x, 0, 5)), 0);
            rule(m, FOLLOWS, 2, 5);
            atom(m, 1, 5);
            m.add();
            due("a circle of three", tried(m, 0, 5, x -> atom(x, 2, 5)), LAYERLESS);
            never(m);
            not(m, 0, 5);
            not(m, 1, 5);
            not(m, 2, 5);
            due("NEVER is the head of nothing", Math.min(0, m.add()), 0);
        });
        says("or of an atom in a COUNTS or SUMS rule, of a rule of which it is the head.", () -> {
            for (int kind = COUNTS; kind <= SUMS; kind++) {
                DatalogMill m = plain(1, 1);
                rule(m, kind, 0, 0);
                atom(m, 0, X);
                due("itself", m.add(), LAYERLESS);
                rule(m, kind, 0, 0);
                not(m, 0, 5);
                due("itself, negated", m.add(), LAYERLESS);
                rule(m, kind, 0, 0);
                atom(m, 1, X);
                due("another one", m.add(), 0);
                due("its atom is of one circle by the new one", tried(m, 1, X, x -> atom(x, 0, X)), LAYERLESS);
                m.drop(0);
                due("without it", tried(m, 1, X, x -> atom(x, 0, X)), 0);
            }
        });
    }

    private static void shrinking() {
        says("Rules are SHRINKING, if for one of them that is FOLLOWS (looked at with the circles that there are with the new one) "
                + "one of these is so:", () -> {
            DatalogMill m = valued();
            rule(m, FOLLOWS, 3, X, 5);
            atom(m, 1, X, 7);
            due("1 is not in the circle of 3", m.add(), 0);
            due("by the new one it is", triedPair(m, 1, X, 5, x -> atom(x, 3, X, ANY)), SHRINKING);
            m.drop(0);
            due("without the first one", triedPair(m, 1, X, 5, x -> atom(x, 3, X, ANY)), 0);
            DatalogMill n = valued();
            rule(n, FOLLOWS, 3, X, 5);
            atom(n, 1, X, V);
            n.add();
            rule(n, FOLLOWS, 1, X, 5);
            atom(n, 3, X, ANY);
            due("a circle, in which V falls", n.add(), 1);
            n.drop(1);
            due("no circle any more", triedPair(n, 3, X, V, x -> atom(x, 1, X, V)), 0);
            rule(n, FOLLOWS, 3, V, V);
            atom(n, 1, X, V);
            due("so V may be in the head", n.add(), 3);
            due("but then there may be no circle", triedPair(n, 1, X, 5, x -> atom(x, 3, X, ANY)), SHRINKING);
            due("once more", triedPair(n, 1, X, 5, x -> atom(x, 3, X, ANY)), SHRINKING);
            n.drop(3);
            due("now there may", triedPair(n, 1, X, 5, x -> atom(x, 3, X, ANY)), 0);
            never(m);
            atom(m, 1, 5, 7);
            due("NEVER", Math.min(0, m.add()), 0);
            rule(m, COUNTS, 3, X, 0);
            atom(m, 1, X, 7);
            due("COUNTS", Math.min(0, m.add()), 0);
            rule(m, SUMS, 3, V, V);
            atom(m, 1, X, V);
            due("SUMS", Math.min(0, m.add()), 0);
        });
        says("- a growing value term is a number, or a variable that a literal ahead of it has;", () -> {
            for (int kind = LEAST; kind <= GREATEST; kind++) {
                int k = kind;
                due("a number", triedPair(valued(), k, X, 5, x -> atom(x, k, X, 0)), SHRINKING);
                due("ANY", triedPair(valued(), k, X, 5, x -> atom(x, k, X, ANY)), 0);
                due("a variable of its own", triedPair(valued(), k, X, 5, x -> atom(x, k, X, V)), 0);
                due("an atom ahead has it", triedPair(valued(), k, X, 5, x -> atom(x, 5, V), x -> atom(x, k, X, V)),
                        SHRINKING);
                due("an atom ahead has another one", triedPair(valued(), k, X, 5, x -> atom(x, 5, U),
                        x -> atom(x, k, X, V)), 0);
                due("a reckoning ahead has it", triedPair(valued(), k, X, 5, x -> x.reckon(V, PLUS, 1, 1),
                        x -> atom(x, k, X, V)), SHRINKING);
                due("an atom farther ahead has it", triedPair(valued(), k, X, 5, x -> atom(x, 5, V),
                        x -> x.compare(SAME, 1, 1), x -> x.compare(SAME, V, V), x -> atom(x, k, X, V)), SHRINKING);
                due("a reckoning farther ahead has it", triedPair(valued(), k, X, 5, x -> x.reckon(V, PLUS, 1, 1),
                        x -> x.reckon(U, PLUS, 1, 1), x -> atom(x, 5, Y), x -> atom(x, k, X, V)), SHRINKING);
                for (int v = X; v <= LAST; v++) {
                    int value = v;
                    int other = v == X ? LAST : v - 1;
                    due("others ahead have others", triedPair(valued(), k, 7, 5, x -> atom(x, 5, other),
                            x -> x.compare(SAME, other, 1), x -> atom(x, k, ANY, value)), 0);
                    due("one ahead has it", triedPair(valued(), k, 7, 5, x -> atom(x, 5, value),
                            x -> x.compare(SAME, value, 1), x -> atom(x, k, ANY, value)), SHRINKING);
                    due("one ahead makes another one", triedPair(valued(), k, 7, 5, x -> x.reckon(other, PLUS, 1, 1),
                            x -> x.compare(SAME, 1, 1), x -> atom(x, k, ANY, value)), 0);
                }
                due("one like it ahead has it", triedPair(valued(), k, X, V, x -> atom(x, k, X, V),
                        x -> atom(x, k, Y, V)), SHRINKING);
            }
        });
        says("- a variable that falls or rises is in an atom otherwise than once, as a growing value term", () -> {
            for (int kind = LEAST; kind <= GREATEST; kind++) {
                int k = kind;
                due("in an atom behind", triedPair(valued(), k, X, V, x -> atom(x, k, X, V), x -> atom(x, 5, V)), SHRINKING);
                due("in a negated one behind", triedPair(valued(), k, X, V, x -> atom(x, k, X, V), x -> not(x, 5, V)),
                        SHRINKING);
                due("as a key behind", triedPair(valued(), k, X, V, x -> atom(x, k, X, V), x -> atom(x, k, V, ANY)),
                        SHRINKING);
                due("as the value of another one that is far", triedPair(valued(), k, X, V, x -> atom(x, k, X, V),
                        x -> atom(x, 4, V)), SHRINKING);
                due("as its own key", triedPair(valued(), k, 5, 5, x -> atom(x, k, V, V)), SHRINKING);
                due("what is made of it in an atom", triedPair(valued(), k, X, V, x -> atom(x, k, X, V),
                        x -> x.reckon(W, PLUS, V, 1), x -> atom(x, 5, W)), SHRINKING);
                due("the key is free", triedPair(valued(), k, X, V, x -> atom(x, k, X, V), x -> atom(x, 5, X)), 0);
            }
        });
        says("or it is in the head otherwise than as the value of a relation that is LEAST, if it falls, and GREATEST, if it rises;",
                () -> {
            for (int kind = LEAST; kind <= GREATEST; kind++) {
                int k = kind;
                due("as its value", triedPair(valued(), k, X, V, x -> atom(x, k, X, V)), 0);
                due("as its key", triedPair(valued(), k, V, 5, x -> atom(x, k, X, V)), SHRINKING);
                due("as both", triedPair(valued(), k, V, V, x -> atom(x, k, X, V)), SHRINKING);
                for (int other = LEAST; other <= 3; other++) {
                    if (other != k) {
                        DatalogMill m = valued();
                        due("not in the circle", triedPair(m, other, X, V, x -> atom(x, k, X, V)), 0);
                        rule(m, FOLLOWS, k, X, 5);
                        atom(m, other, X, ANY);
                        m.add();
                        due(k + " in a head of " + other, triedPair(m, other, X, V, x -> atom(x, k, X, V)), SHRINKING);
                    }
                }
            }
        });
        says("- a variable that falls is in a comparison, but as the first term of LESS or AT_MOST, with a second one that neither "
                + "falls nor rises", () -> dueCompared(LEAST));
        says("or one that rises, but as the second term of those, with a first one that neither falls nor rises.",
                () -> dueCompared(GREATEST));
    }

    private static void dueCompared(int kind) {
        for (int comparison = SAME; comparison <= AT_MOST; comparison++) {
            int c = comparison;
            boolean isOrder = c >= LESS;
            int first = isOrder && kind == LEAST ? 0 : SHRINKING;
            int second = isOrder && kind == GREATEST ? 0 : SHRINKING;
            On own = x -> atom(x, kind, X, V);
            due(c + ", first, a number", triedPair(valued(), kind, X, V, own, x -> x.compare(c, V, 7)), first);
            due(c + ", second, a number", triedPair(valued(), kind, X, V, own, x -> x.compare(c, 7, V)), second);
            due(c + ", first, another one", triedPair(valued(), kind, X, V, own, x -> x.compare(c, V, X)), first);
            due(c + ", second, another one", triedPair(valued(), kind, X, V, own, x -> x.compare(c, X, V)), second);
            due(c + ", itself", triedPair(valued(), kind, X, V, own, x -> x.compare(c, V, V)), SHRINKING);
            due(c + ", two alike", triedPair(valued(), kind, X, V, own, x -> atom(x, kind, Y, U), x -> x.compare(c, V, U)),
                    SHRINKING);
            due(c + ", of others", triedPair(valued(), kind, X, V, own, x -> x.compare(c, X, 7)), 0);
            // 1 and 2 in one circle: V falls and U rises.
            DatalogMill m = valued();
            rule(m, FOLLOWS, 1, X, 5);
            atom(m, 2, X, ANY);
            m.add();
            rule(m, FOLLOWS, 2, X, 5);
            atom(m, 1, X, ANY);
            m.add();
            due(c + ", what falls and what rises", triedPair(m, kind, X, 5, x -> atom(x, 1, X, V), x -> atom(x, 2, X, U),
                    x -> x.compare(c, V, U)), SHRINKING);
            due(c + ", what rises and what falls", triedPair(m, kind, X, 5, x -> atom(x, 1, X, V), x -> atom(x, 2, X, U),
                    x -> x.compare(c, U, V)), SHRINKING);
        }
    }

    private static void fallingAndRising() {
        says("A variable falls if it is a growing value term that falls; or if it is made by a reckoning by PLUS, TIMES, LESSER or "
                + "GREATER of two terms of which at least one falls and none rises", () -> {
            for (int reckoning : new int[] {PLUS, TIMES, LESSER, GREATER}) {
                due("falls and stays", courseOf(reckoning, V, 3), LEAST);
                due("stays and falls", courseOf(reckoning, 3, V), LEAST);
                due("falls and another one stays", courseOf(reckoning, V, X), LEAST);
                due("falls and falls", courseOf(reckoning, V, V), LEAST);
                due("falls and rises", courseOf(reckoning, V, U), SHRINKING);
                due("rises and falls", courseOf(reckoning, U, V), SHRINKING);
                due("stays and stays", courseOf(reckoning, X, 3), PLAIN);
            }
        });
        says("or by MINUS with a first one that falls, and a second one that neither falls nor rises, or with a first one that "
                + "neither falls nor rises and a second one that rises.", () -> {
            due("falls less what stays", courseOf(MINUS, V, 3), LEAST);
            due("falls less another one that stays", courseOf(MINUS, V, X), LEAST);
            due("stays less what rises", courseOf(MINUS, 3, U), LEAST);
            due("another one that stays less what rises", courseOf(MINUS, X, U), LEAST);
            due("falls less what rises", courseOf(MINUS, V, U), SHRINKING);
            due("falls less what falls", courseOf(MINUS, V, V), SHRINKING);
            due("stays less what stays", courseOf(MINUS, X, 3), PLAIN);
        });
        says("It rises likewise, with the other way round.", () -> {
            for (int reckoning : new int[] {PLUS, TIMES, LESSER, GREATER}) {
                due("rises and stays", courseOf(reckoning, U, 3), GREATEST);
                due("stays and rises", courseOf(reckoning, X, U), GREATEST);
                due("rises and rises", courseOf(reckoning, U, U), GREATEST);
            }
            due("rises less what stays", courseOf(MINUS, U, X), GREATEST);
            due("stays less what falls", courseOf(MINUS, 99, V), GREATEST);
            due("rises less what falls", courseOf(MINUS, U, V), SHRINKING);
            due("rises less what rises", courseOf(MINUS, U, U), SHRINKING);
        });
        says("If a reckoning has a term that falls or rises, and its variable neither falls nor rises by that, rules are "
                + "SHRINKING, too.", () -> {
            for (int term : new int[] {V, U}) {
                due("the rest of it", courseOf(REST, term, 3), SHRINKING);
                due("the rest by it", courseOf(REST, 3, term), SHRINKING);
            }
            due("the rest of others", courseOf(REST, X, 3), PLAIN);
            for (int v = X; v <= LAST; v++) {
                for (int w = X; w <= LAST; w++) {
                    for (int kind = LEAST; v != w && kind <= GREATEST; kind++) {
                        int k = kind;
                        int value = v;
                        int made = w;
                        On[] rest = {x -> atom(x, k, ANY, value), x -> x.reckon(made, REST, value, 3)};
                        due("the rest of " + v + " as " + w, triedPair(valued(), k, 7, 5, rest), SHRINKING);
                        On[] sum = {x -> atom(x, k, ANY, value), x -> x.reckon(made, PLUS, 3, value)};
                        due("the sum of " + v + " as " + w, triedPair(valued(), k, 7, w, sum), 0);
                        due("the sum of " + v + " as " + w + " as a key", triedPair(valued(), k, w, 5, sum), SHRINKING);
                    }
                }
            }
            DatalogMill m = valued();
            due("though it is used nowhere", triedPair(m, 1, X, 5, x -> atom(x, 1, X, V), x -> x.reckon(W, REST, V, 3)),
                    SHRINKING);
        });
    }

    /**
     * What becomes of a variable made by a reckoning of V, which falls, U, which rises, or X, which does neither: LEAST if
     * it falls, GREATEST if it rises, PLAIN if neither; SHRINKING if the reckoning itself is that.
     */
    private static int courseOf(int reckoning, int left, int right) {
        DatalogMill m = valued();
        rule(m, FOLLOWS, 1, X, 5);
        atom(m, 2, X, ANY);
        m.add();
        rule(m, FOLLOWS, 2, X, 5);
        atom(m, 1, X, ANY);
        m.add();
        On[] body = {x -> atom(x, 1, X, V), x -> atom(x, 2, X, U), x -> x.reckon(W, reckoning, left, right)};
        if (triedPair(m, 1, X, 5, body) == SHRINKING) {
            return SHRINKING;
        }
        boolean canFall = triedPair(m, 1, X, W, body) == 0;
        boolean canRise = triedPair(m, 2, X, W, body) == 0;
        boolean canBeKey = triedPair(m, 1, W, 5, body) == 0;
        return canBeKey ? PLAIN : canFall == canRise ? NONE : canFall ? LEAST : GREATEST;
    }
}
