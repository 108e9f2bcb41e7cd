/** Of the document's terms: circles and layers, the rows, their ways, heights and prices, and goals. */
final class RowTerms extends Sentences {
    private RowTerms() {
    }

    static void run() {
        circles();
        layers();
        rowsLayerByLayer();
        tooMuch();
        ways();
        heights();
        againAndAgain();
        prices();
        goals();
        goalsByNumbers();
    }

    private static void circles() {
        says("A relation hangs on each relation of the body of a rule of which it is the head, and on whatever that hangs on.",
                () -> {
            DatalogMill m = plain(1, 1, 1, 1, 1, 1);
            int[] bodies = new int[6];
            for (int r = 1; r < 6; r++) {
                rule(m, FOLLOWS, r, X);
                atom(m, 0, X);
                if (r % 2 == 0) {
                    not(m, r - 1, X);
                } else {
                    atom(m, r - 1, X);
                }
                bodies[r] = m.add();
            }
            for (int r = 1; r < 6; r++) {
                int last = r;
                due("0 of not " + r + ", which hangs on 0", tried(m, 0, 5, x -> not(x, last, 5)), LAYERLESS);
                due("1 of not " + r, tried(m, 1, 5, x -> not(x, last, 5)), LAYERLESS);
            }
            due("5 of not 4, on which it hangs but which does not hang on it", tried(m, 5, 5, x -> not(x, 4, 5)), 0);
            for (int first = 0; first < 3; first++) {
                for (int step = 1; step <= 2; step++) {
                    DatalogMill n = plain(1, 1, 1);
                    int second = (first + step) % 3;
                    int third = (second + step) % 3;
                    rule(n, FOLLOWS, first, X);
                    atom(n, second, X);
                    n.add();
                    rule(n, FOLLOWS, second, X);
                    atom(n, third, X);
                    n.add();
                    int hung = first;
                    due("a circle of three, from " + third, tried(n, third, 5, x -> not(x, hung, 5)), LAYERLESS);
                    due("none, from " + first, tried(n, first, 5, x -> not(x, third, 5)), 0);
                }
            }
            m.drop(bodies[3]);
            due("without the rule of 3, 4 does not hang on 2", tried(m, 2, 5, x -> not(x, 4, 5)), 0);
            due("but on 3", tried(m, 3, 5, x -> not(x, 4, 5)), LAYERLESS);
            due("and on 0", tried(m, 0, 5, x -> not(x, 4, 5)), LAYERLESS);
            never(m);
            atom(m, 2, X);
            atom(m, 4, X);
            m.add();
            due("NEVER lets nothing hang on anything", tried(m, 2, 5, x -> not(x, 4, 5)), 0);
        });
        says("Two relations are of one circle if each hangs on the other one", () -> {
            DatalogMill m = valued();
            rule(m, FOLLOWS, 2, X, V);
            atom(m, 1, X, V);
            due("far, as 1 does not hang on 2", m.add(), 0);
            due("layer", m.layer(2), 1);
            rule(m, FOLLOWS, 3, X, 1);
            atom(m, 2, X, ANY);
            m.add();
            due("layer", m.layer(3), 2);
            m.drop(0);
            rule(m, FOLLOWS, 1, X, 1);
            atom(m, 3, X, ANY);
            m.add();
            rule(m, FOLLOWS, 2, X, 1);
            atom(m, 1, X, ANY);
            due("near, as 1 hangs on 3, and 3 on 2", m.add(), 3);
            due("layer(1)", m.layer(1), 0);
            due("layer(2)", m.layer(2), 0);
            due("layer(3)", m.layer(3), 0);
        });
        says("if each hangs on the other one", () -> {
            for (int first = 0; first < 2; first++) {
                DatalogMill m = valued();
                for (int i = 0; i < 2; i++) {
                    rule(m, FOLLOWS, 5, X);
                    atom(m, i == first ? 4 : 5, X);
                    due("neither is SHRINKING", m.add(), i);
                }
                due("5 hangs on itself and on 4, but not 4 on 5", m.layer(5), 1);
                DatalogMill n = valued();
                for (int i = 0; i < 2; i++) {
                    rule(n, FOLLOWS, i == first ? 4 : 5, X);
                    atom(n, 4, X);
                    due("neither is SHRINKING", n.add(), i);
                }
                due("4 hangs on itself, and 5 on 4, but not 4 on 5", n.layer(5), 1);
            }
        });
        says("a relation is of one circle with itself, too.", () -> {
            DatalogMill m = valued();
            due("not itself", tried(m, 5, 5, x -> not(x, 5, 7)), LAYERLESS);
            rule(m, FOLLOWS, 4, V);
            atom(m, 4, V);
            due("a LEAST one of itself is near", m.add(), 0);
            due("layer", m.layer(4), 0);
        });
        says("An atom of a rule that is not NEVER is near, if the rule is FOLLOWS, the atom is not negated, and its relation "
                + "is PLAIN, or of one circle with that of the head; otherwise it is far.", () -> {
            due("FOLLOWS, PLAIN", layerBy(FOLLOWS, PLAIN, false, false), 0);
            due("FOLLOWS, PLAIN, in the circle", layerBy(FOLLOWS, PLAIN, false, true), 0);
            due("FOLLOWS, LEAST", layerBy(FOLLOWS, LEAST, false, false), 1);
            due("FOLLOWS, GREATEST", layerBy(FOLLOWS, GREATEST, false, false), 1);
            due("FOLLOWS, LEAST, in the circle", layerBy(FOLLOWS, LEAST, false, true), 0);
            due("FOLLOWS, GREATEST, in the circle", layerBy(FOLLOWS, GREATEST, false, true), 0);
            for (int kind = PLAIN; kind <= GREATEST; kind++) {
                due("negated, of kind " + kind, layerBy(FOLLOWS, kind, true, false), 1);
                due("COUNTS, of kind " + kind, layerBy(COUNTS, kind, false, false), 1);
                due("SUMS, of kind " + kind, layerBy(SUMS, kind, false, false), 1);
                due("NEVER, of kind " + kind, layerBy(NEVER, kind, true, false), 0);
            }
        });
    }

    /** The layer of relation 1, PLAIN, by a rule with an atom of relation 0. */
    private static int layerBy(int kind, int kindOfAtom, boolean isNegated, boolean isCircle) {
        DatalogMill m = new DatalogMill();
        m.relation(1, kindOfAtom);
        m.relation(1, PLAIN);
        if (isCircle) {
            rule(m, FOLLOWS, 0, 5);
            atom(m, 1, 5);
            m.add();
        }
        rule(m, kind, kind == NEVER ? NONE : 1, 0);
        m.atom(0, isNegated, ANY, 0, 0);
        due("add", m.add(), isCircle ? 1 : 0);
        return m.layer(1);
    }

    private static void layers() {
        says("The layer of a relation is the greatest of these: 0; the layers of the relations of near atoms of rules of which "
                + "it is the head; and the layers of the relations of far ones, and 1.", () -> {
            DatalogMill m = plain(1, 1, 1, 1, 1, 1);
            due("without rules", m.layer(0), 0);
            rule(m, FOLLOWS, 1, 5);
            not(m, 0, 5);
            m.add();
            rule(m, FOLLOWS, 2, 5);
            not(m, 1, 5);
            m.add();
            rule(m, FOLLOWS, 3, 5);
            atom(m, 2, 5);
            not(m, 0, 5);
            m.add();
            due("2 of the near one, 1 of the far one", m.layer(3), 2);
            rule(m, FOLLOWS, 4, 5);
            atom(m, 0, 5);
            not(m, 1, 5);
            int counted = m.add();
            due("0 of the near one, 2 of the far one", m.layer(4), 2);
            rule(m, FOLLOWS, 4, 5);
            not(m, 3, 5);
            int last = m.add();
            due("by another rule 3", m.layer(4), 3);
            rule(m, FOLLOWS, 5, 5);
            atom(m, 4, 5);
            m.add();
            due("near to that", m.layer(5), 3);
            m.drop(last);
            due("without it", m.layer(5), 2);
            m.drop(counted);
            due("without rules", m.layer(4), 0);
            due("near to that", m.layer(5), 0);
        });
    }

    private static void rowsLayerByLayer() {
        says("Rows are found layer by layer, from 0 on.", () -> {
            DatalogMill m = plain(1, 1, 1, 1);
            // Told the other way round, so that the order of the rules does not help.
            rule(m, FOLLOWS, 3, X);
            atom(m, 0, X);
            not(m, 2, X);
            m.add();
            rule(m, FOLLOWS, 2, X);
            atom(m, 0, X);
            not(m, 1, X);
            m.add();
            rule(m, FOLLOWS, 1, X);
            atom(m, 0, X);
            m.compare(LESS, X, 5);
            m.add();
            with(m, 4, 5, 6);
            dueRows(m, 1, 40000);
            dueRows(m, 2, 50000, 60000);
            dueRows(m, 3, 40000);
            fact(m, 2, 4);
            dueRows(m, 2, 40000, 50000, 60000);
            due("3 has none", m.count(3), 0);
        });
        says("In a layer its relations first have their facts as rows; then, again and again, all that its rules make of the "
                + "rows that there are by then is added, until nothing is new.", () -> {
            DatalogMill m = plain(1, 1);
            rule(m, FOLLOWS, 1, Y);
            atom(m, 0, X);
            m.reckon(Y, PLUS, X, 1);
            m.add();
            rule(m, FOLLOWS, 0, X);
            atom(m, 1, X);
            m.compare(LESS, X, 30);
            m.add();
            due("without facts nothing follows from itself", m.count(0), 0);
            fact(m, 0, 0);
            due("0 to 29", m.count(0), 30);
            due("1 to 30", m.count(1), 30);
            m.takeBack(0, 0, 0, 0);
            due("nothing is left over", m.count(0) + m.count(1), 0);
            for (int order = 0; order < 2; order++) {
                DatalogMill n = with(plain(1), 0, 4);
                rule(n, FOLLOWS, 0, Z);
                atom(n, 0, order == 0 ? X : Y);
                n.reckon(order == 0 ? Y : X, order == 0 ? PLUS : MINUS, order == 0 ? X : Y, 4);
                atom(n, 0, order == 0 ? Y : X);
                n.reckon(Z, PLUS, Y, 4);
                n.add();
                due("0, 4 and so on to 96, and 99: each of the two ahead of it", n.count(0), 26);
            }
            for (int kind = COUNTS; kind <= SUMS; kind++) {
                DatalogMill n = plain(1, 2, 1, 1);
                rule(n, FOLLOWS, 3, X);
                atom(n, 2, X);
                n.add();
                rule(n, FOLLOWS, 2, X);
                atom(n, 1, ANY, X);
                n.add();
                rule(n, kind, 1, X, 0);
                atom(n, 0, X);
                n.add();
                fact(n, 0, 5);
                due("in one layer: a group", n.layer(3), 1);
                dueRows(n, 1, kind == COUNTS ? 50100 : 50000);
                dueRows(n, 2, kind == COUNTS ? 10000 : 0);
                dueRows(n, 3, kind == COUNTS ? 10000 : 0);
            }
            fact(m, 1, 29);
            dueRows(m, 0, 290000);
            dueRows(m, 1, 290000, 300000);
        });
        says("Of a relation that is LEAST or GREATEST just the least, or the greatest, of the values for a key that came so far "
                + "is kept at each time.", () -> {
            DatalogMill m = valued();
            int[][] edges = {{1, 2, 9}, {1, 3, 1}, {3, 4, 1}, {4, 2, 1}, {2, 5, 1}};
            for (int[] edge : edges) {
                fact(m, 0, edge);
            }
            for (int kind = LEAST; kind <= GREATEST; kind++) {
                fact(m, kind, 1, 0);
                rule(m, FOLLOWS, kind, Y, W);
                atom(m, kind, X, V);
                atom(m, 0, X, Y, Z);
                m.reckon(W, PLUS, V, Z);
                due("add", m.add(), kind - 1);
            }
            dueRows(m, 1, 10000, 20300, 30100, 40200, 50400);
            dueRows(m, 2, 10000, 20900, 30100, 40200, 51000);
            fact(m, 0, 5, 3, 0);
            dueRows(m, 1, 10000, 20300, 30100, 40200, 50400);
            dueRows(m, 2, 10000, 29900, 39900, 49900, 59900);
            for (int order = 0; order < 2; order++) {
                DatalogMill n = valued();
                int[] values = {5, 9, 7};
                for (int i = 0; i < 3; i++) {
                    fact(n, 0, order == 0 ? i : 9 - i, 4, values[i]);
                }
                fact(n, 5, 4);
                for (int kind = LEAST; kind <= GREATEST; kind++) {
                    rule(n, FOLLOWS, kind, X, V);
                    atom(n, 0, ANY, X, V);
                    atom(n, 5, X);
                    n.compare(LESS, 1, V);
                    n.add();
                }
                dueRows(n, 1, 40500);
                dueRows(n, 2, 40900);
            }
        });
    }

    private static void tooMuch() {
        says("What follows is TOO_MUCH, if some relation would have more than 32 rows by it.", () -> {
            for (int kind = PLAIN; kind <= GREATEST; kind++) {
                for (int rows = 31; rows <= 33; rows++) {
                    int due = rows > 32 ? TOO_MUCH : 0;
                    DatalogMill m = spread(kind, rows);
                    due(rows + " rows of kind " + kind, Math.min(0, m.add()), due);
                    due("count", m.count(2), due == 0 ? rows : 1);
                }
            }
            for (int kind = COUNTS; kind <= SUMS; kind++) {
                for (int pairs = 32; pairs <= 33; pairs++) {
                    DatalogMill m = plain(1, 1, 3);
                    for (int i = 0; i < 8; i++) {
                        fact(m, 0, i);
                    }
                    for (int i = 0; i < 4; i++) {
                        fact(m, 1, i);
                    }
                    if (pairs > 32) {
                        fact(m, 2, 50, 50, 50);
                    }
                    rule(m, kind, 2, X, Y, 0);
                    atom(m, 0, X);
                    atom(m, 1, Y);
                    due(pairs + " groups and rows", Math.min(0, m.add()), pairs > 32 ? TOO_MUCH : 0);
                    due("count", m.count(2), pairs > 32 ? 1 : 32);
                }
            }
            for (int kind = COUNTS; kind <= SUMS; kind++) {
                for (int second = 4; second <= 5; second++) {
                    for (int relation = 2; relation <= 4; relation++) {
                        DatalogMill m = grouped(8, second);
                        rule(m, kind, relation, X, Y, 0);
                        atom(m, 0, X);
                        atom(m, 1, Y);
                        due(8 * second + " groups", Math.min(0, m.add()), second > 4 ? TOO_MUCH : 0);
                        due("count", m.count(relation), second > 4 ? 0 : 32);
                        if (second > 4) {
                            m.takeBack(0, 3, 0, 0);
                            m.takeBack(0, 7, 0, 0);
                            rule(m, kind, relation, X, Y, 0);
                            atom(m, 0, X);
                            atom(m, 1, Y);
                            due("30 groups", Math.min(0, m.add()), 0);
                            due("count", m.count(relation), 30);
                            refused("35 groups", STATE, () -> fact(m, 0, 90));
                            due("count", m.count(relation), 30);
                        }
                    }
                }
            }
            allFull();
            DatalogMill v = valued();
            for (int i = 0; i < 24; i++) {
                fact(v, 1, 1, 4 * i);
            }
            rule(v, FOLLOWS, 1, 1, Y);
            atom(v, 1, X, V);
            v.reckon(Y, MINUS, V, 1);
            due("more than 32 values of one key are one row", Math.min(0, v.add()), 0);
            dueRows(v, 1, 10000);
        });
    }

    /** 6 relations with 32 rows each, 24 facts and 10 rules: all that can be asked is asked. */
    private static void allFull() {
        DatalogMill m = plain(1, 1, 1, 1, 1, 1);
        fact(m, 0, 0);
        for (int i = 0; i < 23; i++) {
            m.fact(5, 31 - i, 0, 0, 99, NONE);
        }
        rule(m, FOLLOWS, 0, Y);
        atom(m, 0, X);
        m.compare(LESS, X, 31);
        m.reckon(Y, PLUS, X, 1);
        m.add();
        for (int r = 1; r < 6; r++) {
            rule(m, FOLLOWS, r, X);
            atom(m, r - 1, X);
            m.add();
        }
        for (int i = 0; i < 3; i++) {
            never(m);
            atom(m, 5, X);
            atom(m, 4, ANY);
            atom(m, 3, X);
            m.compare(LESS, 27 + i, X);
            due("add", m.add(), 6 + i);
            due("bindings", m.bindings(6 + i), 4 - i);
        }
        rule(m, FOLLOWS, 5, 31);
        atom(m, 0, ANY);
        atom(m, 5, ANY);
        due("add", m.add(), 9);
        for (int r = 0; r < 6; r++) {
            due("count", m.count(r), 32);
            for (int n = 0; n < 32; n++) {
                due("row", m.rowAt(r, n), 10000 * n);
                if (r < 5) {
                    due("height", m.height(r, n, 0, 0), n + r);
                    due("price", m.price(r, n, 0, 0), n + r + 1);
                    due("ways", m.ways(r, n, 0, 0), 1);
                }
            }
        }
        dueFull(m);
    }

    private static void dueFull(DatalogMill m) {
        due("ways: a fact, 32 by 32 with ANY are one, and a step", m.ways(5, 31, 0, 0), 3);
        due("height of a fact", m.height(5, 9, 0, 0), 0);
        due("height of none", m.height(5, 8, 0, 0), 13);
        due("price of a way", m.price(5, 9, 0, 0), 15);
        due("price by the cheapest", m.price(5, 31, 0, 0), 1 + 1 + 6);
        due("needs", m.needs(4, 31, 0, 0), 1);
        due("needs", m.needs(5, 9, 0, 0), 0);
        due("answers", m.answers(5, ANY, 0, 0), 32);
        due("reaches", m.reaches(9, 31, 0, 0), 2);
        due("reaches", m.reaches(5, 31, 0, 0), 1);
        due("goals: of 5, 4, 3, 2, 1, 0 31, 0 ANY, 5 ANY, 4 to 1 ANY", m.goals(5, 31, 0, 0), 12);
        due("repair: 5(X) is there by 4(X), which hangs on 0(0)", m.repair(), 1);
        due("repairAt", m.repairAt(0), 0);
        due("holdsAnew", m.holdsAnew(5, 31, 0, 0), true);
        m.takeBack(5, 9, 0, 0);
        refused("a 33rd row", STATE, () -> fact(m, 5, 32));
    }

    /** A draft whose rule gives relation 2 the 32 pairs of 8 and 4 rows, or one less; or there is a fact more. */
    private static DatalogMill spread(int kind, int rows) {
        DatalogMill m = plain(1, 1);
        m.relation(3, kind);
        for (int i = 0; i < 8; i++) {
            fact(m, 0, i);
        }
        for (int i = 0; i < 4; i++) {
            fact(m, 1, i);
        }
        if (rows > 32) {
            fact(m, 2, 50, 50, 50);
        }
        rule(m, FOLLOWS, 2, X, Y, 7);
        atom(m, 0, X);
        atom(m, 1, Y);
        m.reckon(Z, PLUS, X, Y);
        m.compare(LESS, Z, rows < 32 ? 10 : 11);
        return m;
    }

    // ---- ways, heights, prices

    private static void ways() {
        says("A way to a row is a fact that is this row", () -> {
            DatalogMill m = with(plain(1), 5);
            due("a fact", m.ways(0, 5, 0, 0), 1);
            due("another row", m.ways(0, 6, 0, 0), 0);
            m.takeBack(0, 5, 0, 0);
            due("no fact", m.ways(0, 5, 0, 0), 0);
            DatalogMill n = plain(1, 1);
            fact(n, 0, 5);
            fact(n, 1, 5);
            always(n, 1, 5);
            due("a fact and a rule of another relation", n.ways(0, 5, 0, 0), 1);
            due("of that one", n.ways(1, 5, 0, 0), 2);
        });
        says("or a binding of a FOLLOWS rule, by the rows that follow, that makes this row", () -> {
            DatalogMill m = plain(2, 1);
            rule(m, FOLLOWS, 1, X);
            atom(m, 0, X, Y);
            m.add();
            for (int i = 1; i <= 9; i++) {
                fact(m, 0, 5, i);
                fact(m, 0, 6, i);
                due("bindings", m.ways(1, 5, 0, 0), i);
            }
            rule(m, FOLLOWS, 1, X);
            atom(m, 0, X, ANY);
            m.add();
            due("and one with ANY", m.ways(1, 5, 0, 0), 10);
            rule(m, FOLLOWS, 1, X);
            atom(m, 1, X);
            m.add();
            due("and one from itself", m.ways(1, 5, 0, 0), 11);
            DatalogMill v = valued();
            fact(v, 3, 1, 5);
            fact(v, 3, 1, 6);
            fact(v, 3, 2, 5);
            rule(v, FOLLOWS, 4, Y);
            atom(v, 3, X, Y);
            v.add();
            due("two bindings make the least", v.ways(4, 5, 0, 0), 2);
            due("what is not the least", v.ways(4, 6, 0, 0), 0);
            for (int made = X; made <= LAST; made++) {
                DatalogMill n = plain(1, 1);
                int other = made == Y ? Z : Y;
                rule(n, FOLLOWS, 1, made);
                atom(n, 0, other);
                n.reckon(made, PLUS, other, 1);
                n.add();
                for (int i = 0; i < 9; i++) {
                    fact(n, 0, i);
                }
                for (int i = 1; i <= 9; i++) {
                    due("of nine that are made, " + i, n.ways(1, i, 0, 0), 1);
                }
            }
        });
        says("or a group of a COUNTS or SUMS rule that makes it.", () -> {
            DatalogMill m = plain(2, 2);
            fact(m, 0, 1, 2);
            fact(m, 0, 1, 3);
            fact(m, 0, 2, 5);
            rule(m, COUNTS, 1, X, 0);
            atom(m, 0, X, Y);
            m.add();
            due("a group of two bindings", m.ways(1, 1, 2, 0), 1);
            due("another number", m.ways(1, 1, 1, 0), 0);
            rule(m, SUMS, 1, X, 1);
            atom(m, 0, X, Y);
            m.add();
            due("and a group of sums", m.ways(1, 1, 2, 0), 2);
            rule(m, SUMS, 1, X, Y);
            atom(m, 0, X, Y);
            m.add();
            due("another sum", m.ways(1, 1, 2, 0), 2);
            due("that one's row", m.ways(1, 1, 5, 0), 1);
            fact(m, 1, 1, 5);
            due("and a fact", m.ways(1, 1, 5, 0), 2);
            DatalogMill n = plain(1, 1);
            for (int i = 0; i < 12; i++) {
                fact(n, 0, i);
            }
            rule(n, COUNTS, 1, 0);
            atom(n, 0, X);
            atom(n, 0, Y);
            n.add();
            due("144 bindings, so 99", n.ways(1, 99, 0, 0), 1);
        });
    }

    private static void heights() {
        says("The height of a row is the least of the heights of its ways", () -> {
            DatalogMill m = plain(1, 1, 1);
            fact(m, 0, 1);
            rule(m, FOLLOWS, 1, X);
            atom(m, 0, X);
            m.add();
            rule(m, FOLLOWS, 2, X);
            atom(m, 1, X);
            m.add();
            due("by 1", m.height(2, 1, 0, 0), 2);
            rule(m, FOLLOWS, 2, X);
            atom(m, 0, X);
            m.add();
            due("by 0", m.height(2, 1, 0, 0), 1);
            fact(m, 2, 1);
            due("a fact", m.height(2, 1, 0, 0), 0);
        });
        says("that of a fact is 0", () -> due("a fact", with(plain(1), 5).height(0, 5, 0, 0), 0));
        says("that of a binding 1 more than the greatest of the heights of its atoms that are not negated "
                + "(1 if there are none)", () -> {
            DatalogMill m = plain(1, 1, 1, 1);
            fact(m, 0, 1);
            for (int r = 1; r < 4; r++) {
                rule(m, FOLLOWS, r, 1);
                atom(m, r - 1, 1);
                if (r > 1) {
                    atom(m, 0, 1);
                }
                m.add();
                due("height", m.height(r, 1, 0, 0), r);
            }
            rule(m, FOLLOWS, 0, 2);
            atom(m, 1, 1);
            atom(m, 3, 1);
            atom(m, 0, 1);
            m.add();
            due("of 1, 3 and 0", m.height(0, 2, 0, 0), 4);
            rule(m, FOLLOWS, 0, 3);
            not(m, 3, 9);
            m.compare(SAME, 1, 1);
            due("not 3 is in a circle", m.add(), LAYERLESS);
            DatalogMill n = plain(1, 1);
            rule(n, FOLLOWS, 0, 3);
            not(n, 1, 9);
            n.compare(SAME, 1, 1);
            n.add();
            due("none", n.height(0, 3, 0, 0), 1);
        });
        says("that of an atom being the least of the heights of the rows that fit", () -> {
            DatalogMill m = plain(2, 1);
            always(m, 0, 5, 1);
            fact(m, 0, 5, 2);
            rule(m, FOLLOWS, 1, X);
            atom(m, 0, X, ANY);
            m.add();
            due("heights 1 and 0", m.height(1, 5, 0, 0), 1);
            m.takeBack(0, 5, 2, 0);
            due("height 1 alone", m.height(1, 5, 0, 0), 2);
            fact(m, 0, 6, 1);
            due("a row that does not fit", m.height(1, 5, 0, 0), 2);
            fact(m, 0, 5, 0);
            due("heights 0 and 1", m.height(1, 5, 0, 0), 1);
            always(m, 0, 5, 3);
            due("heights 0, 1 and 1", m.height(1, 5, 0, 0), 1);
            m.takeBack(0, 5, 0, 0);
            m.fact(0, 5, 2, 0, 99, NONE);
            due("heights 1, 0 and 1", m.height(1, 5, 0, 0), 1);
            due("prices 1, 99 and 1", m.price(1, 5, 0, 0), 2);
        });
        says("that of a group 1 more than the greatest of those of all atoms that are not negated, of all its bindings "
                + "(1 if there are none).", () -> {
            DatalogMill m = plain(1, 1, 1);
            fact(m, 0, 1);
            rule(m, COUNTS, 1, 0);
            atom(m, 0, X);
            atom(m, 0, Y);
            m.add();
            due("of facts", m.height(1, 1, 0, 0), 1);
            always(m, 0, 2);
            due("one of height 1", m.height(1, 4, 0, 0), 2);
            rule(m, SUMS, 2, 7);
            not(m, 0, 9);
            m.add();
            due("none", m.height(2, 7, 0, 0), 1);
            DatalogMill n = plain(2, 2);
            fact(n, 0, 1, 1);
            always(n, 0, 5, 1);
            fact(n, 0, 5, 2);
            rule(n, COUNTS, 1, X, 0);
            atom(n, 0, X, Y);
            n.add();
            due("of a fact", n.height(1, 1, 1, 0), 1);
            due("of heights 1 and 0", n.height(1, 5, 2, 0), 2);
            manyGroups();
        });
        says("Heights and prices are found from facts, and from bindings without such atoms, on, again and again; a row that is "
                + "not reached so has none.", () -> {
            DatalogMill m = valued();
            fact(m, 2, 4, 97);
            rule(m, FOLLOWS, 2, X, W);
            atom(m, 2, X, V);
            m.reckon(W, PLUS, V, 1);
            m.add();
            dueRows(m, 2, 49900);
            due("99 follows from itself alone", m.height(2, 4, 99, 0), NONE);
            due("it has no price", m.price(2, 4, 99, 0), NONE);
            due("it has a way", m.ways(2, 4, 99, 0), 1);
            rule(m, FOLLOWS, 5, X);
            atom(m, 2, X, ANY);
            m.add();
            due("nor what follows from it", m.height(5, 4, 0, 0), NONE);
            rule(m, COUNTS, 4, 0);
            atom(m, 2, X, ANY);
            m.add();
            due("nor a group of it", m.height(4, 1, 0, 0), NONE);
            due("nor its price", m.price(4, 1, 0, 0), NONE);
            for (int other : new int[] {3, 5}) {
                DatalogMill n = valued();
                fact(n, 2, 4, 97);
                rule(n, FOLLOWS, 2, X, W);
                atom(n, 2, X, V);
                n.compare(LESS, 90, V);
                n.reckon(W, PLUS, V, 1);
                n.add();
                fact(n, 2, other, 80);
                rule(n, COUNTS, 4, 0);
                atom(n, 2, X, ANY);
                n.add();
                due("a group of one that is reached and one that is not", n.height(4, 2, 0, 0), NONE);
                due("its price", n.price(4, 2, 0, 0), NONE);
                fact(n, 2, 4, 99);
                due("now both are", n.height(4, 2, 0, 0), 1);
                due("its price", n.price(4, 2, 0, 0), 3);
            }
            always(m, 2, 4, 99);
            due("a binding without atoms", m.height(2, 4, 99, 0), 1);
            due("what follows from it", m.height(5, 4, 0, 0), 2);
            due("a group of it", m.price(4, 1, 0, 0), 2);
        });
    }

    /** Groups whose heights and prices are unlike, and some that have none. */
    private static void manyGroups() {
        for (int kind = COUNTS; kind <= SUMS; kind++) {
            DatalogMill m = plain(2, 2);
            m.relation(2, GREATEST);
            fact(m, 2, 4, 97);
            rule(m, FOLLOWS, 2, X, W);
            atom(m, 2, X, V);
            m.reckon(W, PLUS, V, 1);
            m.add();
            m.fact(0, 1, 1, 0, 10, NONE);
            m.fact(0, 3, 2, 0, 20, NONE);
            rule(m, FOLLOWS, 0, Y, X);
            atom(m, 0, X, Y);
            m.add();
            rule(m, FOLLOWS, 0, X, 0);
            atom(m, 2, X, ANY);
            m.add();
            rule(m, kind, 1, X, 0);
            atom(m, 0, X, Y);
            m.add();
            rule(m, FOLLOWS, 0, 0, 6);
            atom(m, 0, 2, 3);
            m.add();
            int[] groups = {0, 1, 2, 3, 4, 6};
            int[] counts = {2, 1, 1, 1, 1, 1};
            int[] heights = {NONE, 1, 2, 1, NONE, 4};
            int[] prices = {NONE, 11, 22, 21, NONE, 24};
            due("groups", m.count(1), 6);
            for (int i = 0; i < 6; i++) {
                int count = kind == COUNTS ? counts[i] : 0;
                due("height of " + groups[i], m.height(1, groups[i], count, 0), heights[i]);
                due("price of " + groups[i], m.price(1, groups[i], count, 0), prices[i]);
            }
            DatalogMill full = grouped(8, 4);
            rule(full, kind, 2, X, Y, 0);
            atom(full, 0, X);
            atom(full, 1, Y);
            full.add();
            for (int i = 0; i < 32; i++) {
                int count = kind == COUNTS ? 1 : 0;
                due("height of 32 groups' rows", full.height(2, i / 4, i % 4, count), 1);
                due("price of 32 groups' rows", full.price(2, i / 4, i % 4, count), 3);
                due("ways of 32 groups' rows", full.ways(2, i / 4, i % 4, count), 1);
            }
        }
    }

    /** Rows of relation 0, one column; each step says that the second number follows from the first one. */
    private static DatalogMill steps(int[]... steps) {
        DatalogMill m = plain(1);
        m.fact(0, 1, 0, 0, 1, NONE);
        m.fact(0, 2, 0, 0, 90, NONE);
        for (int[] step : steps) {
            rule(m, FOLLOWS, 0, step[1]);
            atom(m, 0, step[0]);
            m.add();
        }
        return m;
    }

    private static void againAndAgain() {
        says("again and again; a row that is not reached so has none.", () -> {
            // 20 first gets a cheap way by 10, 11 and 12, then a short one by 13; 21 is told ahead of that.
            DatalogMill m = steps(new int[][] {{1, 10}, {10, 11}, {11, 12}, {12, 20}, {20, 21}, {13, 20}, {2, 13}});
            due("the short way", m.height(0, 20, 0, 0), 2);
            due("and on from it", m.height(0, 21, 0, 0), 3);
            due("the cheap way", m.price(0, 20, 0, 0), 5);
            due("and on from it", m.price(0, 21, 0, 0), 6);
            // 20 first gets a short way by 2, then a cheap one by 10, which is not shorter.
            DatalogMill n = steps(new int[][] {{2, 20}, {20, 21}, {10, 20}, {1, 10}});
            due("the short way", n.height(0, 20, 0, 0), 1);
            due("and on from it", n.height(0, 21, 0, 0), 2);
            due("the cheap way", n.price(0, 20, 0, 0), 3);
            due("and on from it", n.price(0, 21, 0, 0), 4);
            // All told the other way round: each round finds one more.
            DatalogMill o = steps(new int[][] {{14, 15}, {13, 14}, {12, 13}, {11, 12}, {10, 11}, {1, 10}});
            for (int i = 10; i <= 15; i++) {
                due("height of " + i, o.height(0, i, 0, 0), i - 9);
                due("price of " + i, o.price(0, i, 0, 0), i - 8);
            }
        });
    }

    private static void prices() {
        says("The price of a row is the least of the prices of its ways", () -> {
            DatalogMill m = plain(1, 1);
            m.fact(0, 1, 0, 0, 10, NONE);
            m.fact(0, 2, 0, 0, 20, NONE);
            rule(m, FOLLOWS, 1, 5);
            atom(m, 0, X);
            m.add();
            due("10 or 20", m.price(1, 5, 0, 0), 11);
            m.fact(1, 5, 0, 0, 12, NONE);
            due("or 12", m.price(1, 5, 0, 0), 11);
            m.takeBack(0, 1, 0, 0);
            due("12 or 21", m.price(1, 5, 0, 0), 12);
        });
        says("that of a fact is its price", () -> {
            DatalogMill m = plain(1);
            m.fact(0, 1, 0, 0, 1, NONE);
            m.fact(0, 2, 0, 0, 99, NONE);
            due("1", m.price(0, 1, 0, 0), 1);
            due("99", m.price(0, 2, 0, 0), 99);
        });
        says("that of a binding is 1 and the prices of its atoms that are not negated, added", () -> {
            DatalogMill m = plain(1, 1, 1);
            m.fact(0, 1, 0, 0, 10, NONE);
            m.fact(0, 2, 0, 0, 20, NONE);
            rule(m, FOLLOWS, 1, 5);
            atom(m, 0, 1);
            atom(m, 0, 2);
            atom(m, 0, 1);
            m.add();
            due("10, 20 and 10 again", m.price(1, 5, 0, 0), 41);
            rule(m, FOLLOWS, 1, 6);
            atom(m, 0, 1);
            not(m, 2, 2);
            m.add();
            due("10", m.price(1, 6, 0, 0), 11);
            due("no atoms", m.price(1, 7, 0, 0), NONE);
            always(m, 1, 7);
            due("no atoms", m.price(1, 7, 0, 0), 1);
        });
        says("that of an atom being the least of the prices of the rows that fit", () -> {
            DatalogMill m = plain(2, 1);
            m.fact(0, 5, 1, 0, 30, NONE);
            m.fact(0, 5, 2, 0, 20, NONE);
            m.fact(0, 6, 3, 0, 10, NONE);
            rule(m, FOLLOWS, 1, X);
            atom(m, 0, X, ANY);
            m.add();
            due("30 or 20", m.price(1, 5, 0, 0), 21);
            due("10", m.price(1, 6, 0, 0), 11);
        });
        says("that of a group is 1 and those of all atoms that are not negated, of all its bindings, added", () -> {
            DatalogMill m = plain(2, 2, 1);
            m.fact(0, 5, 1, 0, 30, NONE);
            m.fact(0, 5, 2, 0, 20, NONE);
            m.fact(0, 6, 3, 0, 10, NONE);
            rule(m, COUNTS, 1, X, 0);
            atom(m, 0, X, Y);
            m.add();
            due("30 and 20", m.price(1, 5, 2, 0), 51);
            due("10", m.price(1, 6, 1, 0), 11);
            rule(m, SUMS, 2, 1);
            atom(m, 0, X, ANY);
            atom(m, 0, 6, 3);
            m.add();
            due("20 and 10, 10 and 10", m.price(2, 2, 0, 0), 51);
            rule(m, SUMS, 2, 9);
            not(m, 0, 7, ANY);
            m.add();
            due("no atoms", m.price(2, 9, 0, 0), 1);
        });
        says("what is above 9999 becomes 9999.", () -> {
            // A group of 100 bindings of one atom of two has 1 and 20 times the prices of 10 facts.
            int[][] priceAndDue = {{46, 9981}, {47, 9999}, {99, 9999}};
            for (int[] each : priceAndDue) {
                DatalogMill m = plain(1, 1, 1, 1);
                for (int i = 0; i < 10; i++) {
                    m.fact(0, i, 0, 0, i < 8 ? 50 : i == 8 ? 53 : each[0], NONE);
                }
                rule(m, COUNTS, 1, 0);
                atom(m, 0, X);
                atom(m, 0, Y);
                m.add();
                due("with " + each[0], m.price(1, 99, 0, 0), each[1]);
                for (int r = 2; r < 4; r++) {
                    rule(m, FOLLOWS, r, 1);
                    atom(m, r - 1, ANY);
                    m.add();
                }
                due("1 more", m.price(2, 1, 0, 0), Math.min(9999, each[1] + 1));
                due("2 more", m.price(3, 1, 0, 0), Math.min(9999, each[1] + 2));
                rule(m, FOLLOWS, 3, 2);
                atom(m, 1, X);
                atom(m, 0, 0);
                m.add();
                due("50 and 1 more", m.price(3, 2, 0, 0), 9999);
            }
            for (int add = 16; add <= 19; add++) {
                // 9981, and 1 and as much: just below, at and above 9999.
                DatalogMill m = plain(1, 1, 1, 1);
                for (int i = 0; i < 10; i++) {
                    m.fact(0, i, 0, 0, i < 8 ? 50 : i == 8 ? 53 : 46, NONE);
                }
                m.fact(2, 0, 0, 0, add, NONE);
                rule(m, COUNTS, 1, 0);
                atom(m, 0, X);
                atom(m, 0, Y);
                m.add();
                rule(m, FOLLOWS, 3, 1);
                atom(m, 1, ANY);
                atom(m, 2, ANY);
                m.add();
                due("9981 and " + add + " and 1", m.price(3, 1, 0, 0), Math.min(9999, 9982 + add));
            }
        });
    }

    // ---- goals

    private static void goals() {
        says("A goal is a relation with a number or ANY for each of its columns.", () -> {
            DatalogMill m = plain(3, 1);
            rule(m, FOLLOWS, 1, X);
            atom(m, 0, X, ANY, 5);
            m.add();
            rule(m, FOLLOWS, 1, X);
            atom(m, 0, X, 5, ANY);
            m.add();
            rule(m, FOLLOWS, 1, X);
            atom(m, 0, X, ANY, ANY);
            m.add();
            rule(m, FOLLOWS, 1, X);
            atom(m, 0, X, 0, 0);
            m.add();
            due("itself and four that are unlike", m.goals(1, 7, 0, 0), 5);
            rule(m, FOLLOWS, 1, X);
            atom(m, 0, X, Y, Z);
            m.add();
            due("one of them again", m.goals(1, 7, 0, 0), 5);
        });
        says("for each rule that is not NEVER, whose head is of its relation", () -> {
            DatalogMill m = plain(1, 1, 1);
            for (int kind = FOLLOWS; kind <= NEVER; kind++) {
                rule(m, kind, kind == NEVER ? NONE : 1, 0);
                atom(m, 0, kind);
                m.add();
            }
            due("FOLLOWS, COUNTS and SUMS", m.goals(1, 0, 0, 0), 4);
            due("another relation", m.goals(2, 0, 0, 0), 1);
        });
        says("its numbers are put in for the terms of the head, as far as these are variables", () -> {
            DatalogMill m = plain(3, 3);
            rule(m, FOLLOWS, 1, X, Y, 5);
            atom(m, 0, Y, X, 5);
            atom(m, 0, X, X, Y);
            m.add();
            fact(m, 0, 8, 7, 5);
            due("0(8, 7, 5), 0(7, 7, 8)", m.goals(1, 7, 8, 5), 3);
            due("0(9, 7, 5)", m.goals(1, 7, 9, 5), 2);
            due("0(ANY, 7, 5), 0(7, 7, 8)", m.goals(1, 7, ANY, 5), 3);
            due("0(ANY, ANY, 5), 0(7, 7, 8)", m.goals(1, ANY, ANY, ANY), 3);
        });
        says("but not for the value of a relation that is LEAST or GREATEST", () -> {
            for (int kind = LEAST; kind <= GREATEST; kind++) {
                DatalogMill m = valued();
                fact(m, 3, 1, 5);
                fact(m, 3, 1, 6);
                rule(m, FOLLOWS, kind, X, V);
                atom(m, 3, X, V);
                atom(m, 5, V);
                m.add();
                due("3(1, ANY), 5(5), 5(6)", m.goals(kind, 1, 5, 0), 4);
                due("3(2, ANY)", m.goals(kind, 2, 5, 0), 2);
                rule(m, FOLLOWS, 3, X, V);
                atom(m, 0, X, V, ANY);
                m.add();
                due("PLAIN: 0(1, 5, ANY)", m.goals(3, 1, 5, 0), 2);
            }
        });
        says("nor for the last column with COUNTS and SUMS.", () -> {
            DatalogMill m = plain(2, 2, 1);
            fact(m, 0, 1, 5);
            fact(m, 0, 1, 6);
            rule(m, SUMS, 1, X, Y);
            atom(m, 0, X, Y);
            atom(m, 2, Y);
            m.add();
            due("0(1, ANY), 2(5), 2(6)", m.goals(1, 1, 5, 0), 4);
            m.drop(0);
            rule(m, COUNTS, 1, X, 0);
            atom(m, 0, X, Y);
            atom(m, 2, Y);
            m.add();
            due("0(1, ANY), 2(5), 2(6)", m.goals(1, 1, 7, 0), 4);
        });
    }

    private static void goalsByNumbers() {
        says("(If a term of the head that is a number is another one than that of the goal", () -> {
            DatalogMill m = plain(1, 3);
            rule(m, FOLLOWS, 1, 1, 2, 3);
            atom(m, 0, 5);
            m.add();
            due("the same", m.goals(1, 1, 2, 3), 2);
            due("ANY", m.goals(1, ANY, ANY, ANY), 2);
            due("a", m.goals(1, 0, 2, 3), 1);
            due("b", m.goals(1, 1, 0, 3), 1);
            due("c", m.goals(1, 1, 2, 0), 1);
            due("c, else ANY", m.goals(1, ANY, ANY, 4), 1);
        });
        says("or one variable would get two numbers, this rule asks nothing", () -> {
            DatalogMill m = plain(1, 3);
            rule(m, FOLLOWS, 1, X, Y, X);
            atom(m, 0, X);
            m.reckon(Y, PLUS, X, 1);
            m.add();
            due("the same", m.goals(1, 5, 6, 5), 2);
            due("two", m.goals(1, 5, 5, 6), 1);
            due("one and ANY", m.goals(1, ANY, 6, 5), 2);
        });
        says("columns left out are not looked at.)", () -> {
            DatalogMill m = valued();
            rule(m, FOLLOWS, 1, X, 5);
            atom(m, 5, X);
            m.add();
            due("another value", m.goals(1, 1, 6, 0), 2);
            rule(m, FOLLOWS, 2, X, X);
            atom(m, 5, X);
            m.add();
            due("two numbers, one of a value", m.goals(2, 1, 6, 0), 2);
            rule(m, COUNTS, 3, X, 0);
            atom(m, 5, X);
            m.add();
            due("another count", m.goals(3, 1, 6, 0), 2);
            rule(m, SUMS, 0, X, 1, 7);
            atom(m, 5, X);
            m.add();
            due("another sum", m.goals(0, 1, 1, 6), 2);
            due("another group", m.goals(0, 1, 2, 7), 1);
        });
        says("Then for each atom of the body, negated or not", () -> {
            DatalogMill m = plain(1, 1);
            rule(m, FOLLOWS, 1, 5);
            not(m, 0, 1);
            atom(m, 0, 2);
            not(m, 0, 3);
            m.add();
            due("0(1), 0(2)", m.goals(1, 5, 0, 0), 3);
            fact(m, 0, 2);
            due("0(1), 0(2), 0(3)", m.goals(1, 5, 0, 0), 4);
            fact(m, 0, 1);
            due("0(1)", m.goals(1, 5, 0, 0), 2);
        });
        says("each way to give the variables of the literals ahead of it numbers so that these hold (by the rows that follow) "
                + "and that what was put in stays", () -> {
            DatalogMill m = plain(2, 1, 1);
            for (int i = 0; i < 10; i++) {
                fact(m, 0, i % 2, i);
            }
            rule(m, FOLLOWS, 2, X);
            atom(m, 0, X, Y);
            m.compare(LESS, Y, 6);
            atom(m, 1, Y);
            m.add();
            due("0(1, ANY), 1(1), 1(3), 1(5)", m.goals(2, 1, 0, 0), 5);
            due("0(ANY, ANY), 1(0) to 1(5)", m.goals(2, ANY, 0, 0), 8);
            rule(m, FOLLOWS, 2, X);
            m.reckon(X, PLUS, 3, 4);
            atom(m, 1, 9);
            m.add();
            due("what is made is not what was put in", m.goals(2, 1, 0, 0), 5);
            due("it is: 0(7, ANY), 1(9)", m.goals(2, 7, 0, 0), 3);
            DatalogMill n = plain(1, 1, 1);
            rule(n, FOLLOWS, 2, X);
            atom(n, 0, Y);
            n.reckon(X, PLUS, Y, 1);
            atom(n, 1, Y);
            n.add();
            for (int i = 0; i < 9; i++) {
                fact(n, 0, i);
            }
            for (int i = 1; i <= 9; i++) {
                due("0(ANY), 1 of just one", n.goals(2, i, 0, 0), 3);
            }
            due("0(ANY), 1 of each", n.goals(2, ANY, 0, 0), 11);
            rule(m, FOLLOWS, 0, 50, X);
            atom(m, 1, X);
            m.add();
            fact(m, 1, 60);
            due("rows that follow: 0(50, ANY), 1(ANY)", m.goals(2, 50, 0, 0), 3);
        });
        says("for each of its terms the number that it is or that its variable has by then", () -> {
            DatalogMill m = plain(3, 3);
            fact(m, 0, 1, 2, 3);
            rule(m, FOLLOWS, 1, X, Y, Z);
            atom(m, 0, X, Y, Z);
            atom(m, 0, Z, X, 9);
            m.add();
            due("0(1, 2, ANY), 0(3, 1, 9)", m.goals(1, 1, 2, ANY), 3);
            due("0(1, 2, 3), 0(3, 1, 9)", m.goals(1, 1, 2, 3), 3);
            rule(m, FOLLOWS, 1, X, Y, Z);
            atom(m, 0, 1, 2, 3);
            atom(m, 0, X, Y, Z);
            m.add();
            due("also 0(1, 2, 3), which is the same", m.goals(1, 1, 2, 3), 3);
            due("0(1, 2, ANY), 0(3, 1, 9), 0(1, 2, 3)", m.goals(1, 1, 2, ANY), 4);
        });
        says("ANY for others, and for the value of a relation that is LEAST or GREATEST.", () -> {
            DatalogMill m = valued();
            rule(m, FOLLOWS, 5, X);
            atom(m, 1, X, 5);
            m.add();
            rule(m, FOLLOWS, 5, X);
            atom(m, 1, X, X);
            m.add();
            rule(m, FOLLOWS, 5, X);
            atom(m, 1, X, ANY);
            m.add();
            due("1(7, ANY) of all three", m.goals(5, 7, 0, 0), 2);
            rule(m, FOLLOWS, 5, X);
            atom(m, 1, 8, X);
            m.add();
            due("1(8, ANY)", m.goals(5, 7, 0, 0), 3);
            m.drop(3);
            rule(m, FOLLOWS, 5, X);
            atom(m, 4, X);
            m.add();
            due("4(ANY)", m.goals(5, 7, 0, 0), 3);
            rule(m, FOLLOWS, 4, X);
            atom(m, 4, X);
            m.add();
            due("4(ANY)", m.goals(4, ANY, 0, 0), 1);
            due("4(3), which asks 4(ANY)", m.goals(4, 3, 0, 0), 2);
        });
    }
}
