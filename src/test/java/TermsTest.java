/** A test of its own for each sentence of the document's terms, and for how many calls an object is used. */
public final class TermsTest extends Sentences {
    private interface World {
        DatalogMill make();
    }

    public static void main(String[] arguments) {
        calls512();
        section("Terms");
        order();
        relationsAndRows();
        facts();
        RuleTerms.run();
        RowTerms.run();
        exceptions();
        nothingChanges();
        constants();
        endOfSentences();
    }

    private static void calls512() {
        section("What it is");
        isFree("A deductive database");
        says("An object is used for at most 512 calls after it has been made", () -> {
            DatalogMill m = plain(1);
            int calls = 1;
            for (int i = 0; calls + 4 <= 508; i++) {
                rule(m, FOLLOWS, 0, i % 100);
                m.compare(SAME, 1, 1);
                due("add", m.add(), i);
                m.drop(i);
                calls += 4;
            }
            due("pass", m.pass(100), 0);
            due("now", m.now(), 100);
            calls += 2;
            while (calls < 510) {
                due("facts", m.facts(), 0);
                calls++;
            }
            due("the 511th call", m.fact(0, 7, 0, 0, 1, 101), 1);
            due("the 512th call", m.holds(0, 7, 0, 0), true);
            DatalogMill timed = plain(1);
            timed.fact(0, 1, 0, 0, 1, 50_900);
            for (int i = 3; i <= 510; i++) {
                due("pass", timed.pass(100), 0);
            }
            due("the 511th call: at 50900 the fact ends", timed.pass(100), 1);
            due("the 512th call", timed.now(), 50_900);
        });
    }

    private static void order() {
        says("The rows are always those that follow from the facts and rules of now, whatever came in which order.", () -> {
            int[][] orders = {{0, 1, 2, 3, 4}, {4, 3, 2, 1, 0}, {2, 0, 4, 1, 3}, {3, 4, 0, 2, 1}};
            for (int[] all : orders) {
                DatalogMill m = valued();
                for (int step : all) {
                    tell(m, step);
                }
                dueRows(m, 1, 10300, 20100, 30400);
                dueRows(m, 3, 20100, 30400);
                fact(m, 0, 3, 1, 0);
                dueRows(m, 1, 10300, 20100, 30400);
                m.takeBack(0, 3, 1, 0);
                m.takeBack(0, 1, 2, 0);
                dueRows(m, 1, 10300, 20100, 30400);
                fact(m, 0, 1, 2, 0);
                dueRows(m, 1, 10300, 20100, 30400);
                m.takeBack(1, 2, 1, 0);
                dueRows(m, 1, 10300, 20300, 30600);
                dueRows(m, 3, 30600);
            }
        });
    }

    /** Facts of 0 and 1, and two rules: 1(Y, V + Z) of 1(X, V) and 0(X, Y, Z), and 3(X, V) of 1(X, V) if V is not 3. */
    private static void tell(DatalogMill m, int step) {
        switch (step) {
            case 0: fact(m, 0, 1, 2, 0); fact(m, 0, 2, 3, 3); break;
            case 1: fact(m, 1, 1, 3); break;
            case 2: fact(m, 1, 2, 1); break;
            case 3:
                rule(m, FOLLOWS, 1, Y, W);
                atom(m, 1, X, V);
                atom(m, 0, X, Y, Z);
                m.reckon(W, PLUS, V, Z);
                m.add();
                break;
            default:
                rule(m, FOLLOWS, 3, X, V);
                atom(m, 1, X, V);
                m.compare(UNLIKE, V, 3);
                m.add();
                break;
        }
    }

    private static void relationsAndRows() {
        isFree("Relations, rows, facts");
        says("There can be 6 relations, numbered from 0.", () -> {
            DatalogMill m = new DatalogMill();
            for (int i = 0; i < 6; i++) {
                due("relation", m.relation(1, PLAIN), i);
            }
            refused("a seventh", STATE, () -> m.relation(1, PLAIN));
            for (int i = 0; i < 6; i++) {
                fact(m, i, 10 + i);
                dueRows(m, i, 10000 * (10 + i));
            }
        });
        says("A relation has 1 to 3 columns, and a kind: PLAIN, LEAST or GREATEST.", () -> {
            for (int columns = 0; columns <= 4; columns++) {
                for (int kind = -1; kind <= 3; kind++) {
                    int c = columns;
                    int k = kind;
                    boolean isGood = c >= 1 && c <= 3 && k >= 0 && k <= 2;
                    refused(c + " columns, kind " + k, isGood ? 0 : ARGUMENT, () -> new DatalogMill().relation(c, k));
                }
            }
        });
        says("A row has a number from 0 to 99 for each column.", () -> {
            for (int n = -2; n <= 101; n++) {
                int number = n;
                boolean isGood = n >= 0 && n <= 99;
                refused("row " + n, isGood ? 0 : ARGUMENT, () -> fact(plain(1), 0, number));
                refused("b of a row " + n, isGood ? 0 : ARGUMENT, () -> fact(plain(2), 0, 1, number));
                refused("c of a row " + n, isGood ? 0 : ARGUMENT, () -> fact(plain(3), 0, 1, 1, number));
            }
            DatalogMill m = plain(3);
            fact(m, 0, 99, 0, 99);
            fact(m, 0, 0, 99, 0);
            dueRows(m, 0, 9900, 990099);
        });
        says("Of a relation that is LEAST or GREATEST the last column is the value, the columns ahead of it are the key",
                () -> {
            for (int kind = LEAST; kind <= GREATEST; kind++) {
                DatalogMill m = new DatalogMill();
                m.relation(3, kind);
                fact(m, 0, 1, 2, 5);
                fact(m, 0, 2, 1, 5);
                fact(m, 0, 1, 3, 5);
                fact(m, 0, 1, 2, 6);
                fact(m, 0, 1, 2, 4);
                dueRows(m, 0, kind == LEAST ? 10204 : 10206, 10305, 20105);
                m.relation(2, kind);
                fact(m, 1, 1, 50);
                fact(m, 1, 2, 50);
                fact(m, 1, 1, 49);
                dueRows(m, 1, kind == LEAST ? 14900 : 15000, 25000);
            }
        });
        says("it has one row at most for each key", () -> {
            for (int kind = LEAST; kind <= GREATEST; kind++) {
                DatalogMill m = new DatalogMill();
                m.relation(1, kind);
                due("no facts", m.count(0), 0);
                for (int n : new int[] {50, 0, 99, 51, 1}) {
                    fact(m, 0, n);
                    due("one column: no key, one row", m.count(0), 1);
                }
                dueRows(m, 0, kind == LEAST ? 0 : 990000);
                always(m, 0, 99);
                always(m, 0, 0);
                due("and by rules", m.count(0), 1);
            }
        });
        says("those behind the columns of the relation have to be 0", () -> {
            refused("1 column", 0, () -> plain(1).holds(0, 5, 0, 0));
            refused("1 column, b", ARGUMENT, () -> plain(1).holds(0, 5, 1, 0));
            refused("1 column, c", ARGUMENT, () -> plain(1).holds(0, 5, 0, 1));
            refused("2 columns", 0, () -> plain(2).holds(0, 5, 5, 0));
            refused("2 columns, c", ARGUMENT, () -> plain(2).holds(0, 5, 5, 1));
            refused("3 columns", 0, () -> plain(3).holds(0, 5, 5, 5));
        });
        says("Rows are ordered by a, then by b, then by c.", () -> {
            DatalogMill m = plain(3);
            int[][] rows = {{1, 0, 0}, {0, 99, 99}, {0, 0, 2}, {0, 0, 10}, {0, 2, 0}, {0, 10, 0}, {10, 0, 0}, {2, 0, 1}};
            for (int[] row : rows) {
                fact(m, 0, row);
            }
            dueRows(m, 0, 2, 10, 200, 1000, 9999, 10000, 20001, 100000);
        });
    }

    private static void facts() {
        says("There can be 24 facts at one time.", () -> {
            DatalogMill m = plain(1, 1);
            for (int i = 0; i < 24; i++) {
                due("fact", m.fact(i % 2, i / 2, 0, 0, 1, i == 7 ? 5 : NONE), i + 1);
            }
            refused("a 25th", STATE, () -> fact(m, 0, 90));
            m.pass(5);
            due("at another time", m.fact(0, 90, 0, 0, 1, NONE), 24);
            refused("a 25th", STATE, () -> fact(m, 0, 91));
            m.takeBack(0, 90, 0, 0);
            due("at another time", m.fact(0, 91, 0, 0, 1, NONE), 24);
        });
        says("A fact is a row of a relation, and has a price, 1 to 99, and an end, which is a time, or none.", () -> {
            for (int price = 0; price <= 100; price++) {
                int p = price;
                DatalogMill m = plain(1);
                boolean isGood = p >= 1 && p <= 99;
                refused("price " + p, isGood ? 0 : ARGUMENT, () -> m.fact(0, 5, 0, 0, p, NONE));
                due("the price", m.price(0, 5, 0, 0), isGood ? p : NONE);
            }
            for (int end : new int[] {-2, -1, 0, 1, 2, 100}) {
                refused("end " + end, end > 0 || end == NONE ? 0 : ARGUMENT, () -> plain(1).fact(0, 5, 0, 0, 1, end));
            }
        });
        says("Facts with the same key and unlike values can be told of a relation that is LEAST or GREATEST.", () -> {
            DatalogMill m = valued();
            for (int n : new int[] {5, 7, 3, 6}) {
                fact(m, 1, 1, n);
                fact(m, 2, 1, n);
            }
            due("facts", m.facts(), 8);
            dueRows(m, 1, 10300);
            dueRows(m, 2, 10700);
            refused("the same value", STATE, () -> fact(m, 1, 1, 6));
            m.takeBack(1, 1, 3, 0);
            m.takeBack(2, 1, 7, 0);
            dueRows(m, 1, 10500);
            dueRows(m, 2, 10600);
            m.takeBack(1, 1, 7, 0);
            dueRows(m, 1, 10500);
        });
        says("The time is 0 at first; when it becomes the end of a fact, that is gone.", () -> {
            DatalogMill m = plain(1);
            due("now", m.now(), 0);
            m.fact(0, 1, 0, 0, 1, 3);
            m.fact(0, 2, 0, 0, 1, 4);
            due("at 2", m.pass(2), 0);
            dueRows(m, 0, 10000, 20000);
            due("at 3", m.pass(1), 1);
            dueRows(m, 0, 20000);
            due("facts", m.facts(), 1);
            due("past 4", m.pass(50), 1);
            due("facts", m.facts(), 0);
            DatalogMill v = valued();
            v.fact(1, 1, 5, 0, 1, 1);
            v.fact(1, 1, 9, 0, 1, NONE);
            v.pass(1);
            dueRows(v, 1, 10900);
            endsNotEarlier();
        });
    }

    /** A fact that ends at the next step is there yet, whatever is changed or asked. */
    private static void endsNotEarlier() {
        DatalogMill m = plain(1);
        m.pass(4);
        m.fact(0, 1, 0, 0, 1, 5);
        fact(m, 0, 2);
        dueRows(m, 0, 10000, 20000);
        due("holdsAnew", m.holdsAnew(0, 1, 0, 0), true);
        always(m, 0, 3);
        dueRows(m, 0, 10000, 20000, 30000);
        m.takeBack(0, 2, 0, 0);
        dueRows(m, 0, 10000, 30000);
        m.drop(0);
        dueRows(m, 0, 10000);
        fact(m, 0, 4);
        rule(m, FOLLOWS, 0, 5);
        atom(m, 0, ANY);
        m.add();
        due("either of two is enough", m.needs(0, 5, 0, 0), 0);
        never(m);
        atom(m, 0, 4);
        atom(m, 0, 1);
        m.add();
        due("either of two is given up", m.repair(), 1);
        due("the first one", m.repairAt(0), 0);
        never(m);
        not(m, 0, 1);
        m.add();
        due("the first one may not go", m.repairAt(0), 1);
        m.pass(1);
        dueRows(m, 0, 40000, 50000);
        due("now it is gone", m.repair(), NONE);
    }

    // ---- exceptions

    private static void exceptions() {
        says("IndexOutOfBoundsException: there is no such relation, rule or place.", () -> {
            refused("relation", INDEX, () -> plain(1).count(1));
            refused("rule", INDEX, () -> plain(1).bindings(0));
            refused("place of a row", INDEX, () -> plain(1).rowAt(0, 0));
            refused("place of a repair", INDEX, () -> plain(1).repairAt(0));
        });
        says("IllegalArgumentException: another argument is out of its range.", () -> {
            refused("a row", ARGUMENT, () -> plain(1).holds(0, 100, 0, 0));
            refused("steps", ARGUMENT, () -> plain(1).pass(0));
            refused("a comparison", ARGUMENT, () -> RuleTerms.drafted().compare(4, 0, 0));
        });
        says("IllegalStateException: as the method says.", () -> {
            refused("no such fact", STATE, () -> plain(1).takeBack(0, 1, 0, 0));
            refused("no draft", STATE, () -> plain(1).add());
        });
        says("If several exceptions of a throws clause apply, the one that is listed first is thrown.", () -> {
            DatalogMill six = plain(1, 1, 1, 1, 1, 1);
            refused("relation: columns, six", ARGUMENT, () -> six.relation(0, PLAIN));
            refused("relation: kind, six", ARGUMENT, () -> six.relation(1, 3));
            DatalogMill full = plain(1);
            for (int i = 0; i < 24; i++) {
                fact(full, 0, i);
            }
            refused("fact: relation, row, 24", INDEX, () -> full.fact(1, 100, 1, 1, 0, 0));
            refused("fact: row, 24", ARGUMENT, () -> full.fact(0, 100, 0, 0, 1, NONE));
            refused("fact: behind, 24", ARGUMENT, () -> full.fact(0, 1, 1, 0, 1, NONE));
            refused("fact: price, there it is", ARGUMENT, () -> full.fact(0, 5, 0, 0, 100, NONE));
            refused("fact: end, there it is", ARGUMENT, () -> full.fact(0, 5, 0, 0, 1, 0));
            refused("fact: 24 and there it is", STATE, () -> full.fact(0, 5, 0, 0, 1, NONE));
            refused("takeBack: relation, row", INDEX, () -> full.takeBack(1, 100, 0, 0));
            refused("takeBack: row, no such fact", ARGUMENT, () -> full.takeBack(0, 100, 0, 0));
            DatalogMill brink = brink();
            brink.fact(1, 8, 0, 0, 1, 2);
            brink.takeBack(1, 7, 0, 0);
            refused("pass: steps, too much", ARGUMENT, () -> brink.pass(101));
            refused("takeBack: behind, too much", ARGUMENT, () -> brink.takeBack(1, 8, 0, 1));
            refused("rule: relation, kind, terms", INDEX, () -> plain(1).rule(9, 1, 200, 200, 200));
            refused("rule: relation, terms", INDEX, () -> plain(1).rule(FOLLOWS, NONE, 200, 1, 1));
            refused("rule: relation with NEVER, terms", INDEX, () -> plain(1).rule(NEVER, 0, 1, 1, 1));
            refused("atom: relation, term, draft", INDEX, () -> plain(1).atom(1, false, 200, 0, 0));
            refused("atom: term, draft", ARGUMENT, () -> plain(1).atom(0, false, 200, 0, 0));
            refused("compare: comparison, draft", ARGUMENT, () -> plain(1).compare(4, 0, 0));
            refused("compare: term, draft", ARGUMENT, () -> plain(1).compare(SAME, 0, ANY));
            refused("reckon: variable, draft", ARGUMENT, () -> plain(1).reckon(0, PLUS, 0, 0));
            refused("reckon: reckoning, draft", ARGUMENT, () -> plain(1).reckon(X, 6, 0, 0));
            refused("reckon: term, draft", ARGUMENT, () -> plain(1).reckon(X, PLUS, 108, 0));
            On[] ofRow = {m -> m.holds(1, 100, 1, 1), m -> m.holdsAnew(1, 100, 1, 1), m -> m.answers(1, 100, 1, 1),
                m -> m.goals(1, 100, 1, 1), m -> m.ways(1, 100, 1, 1), m -> m.height(1, 100, 1, 1),
                m -> m.price(1, 100, 1, 1), m -> m.needs(1, 100, 1, 1), m -> m.reaches(0, 100, 1, 1)};
            for (int i = 0; i < ofRow.length; i++) {
                On call = ofRow[i];
                refused("relation or rule, row: " + i, INDEX, () -> call.make(plain(1)));
            }
        });
    }

    private static void nothingChanges() {
        says("A call that throws an exception changes nothing.", () -> {
            World draft = () -> drafted(brink());
            On[] index = {m -> m.fact(3, 1, 0, 0, 1, NONE), m -> m.takeBack(-1, 1, 0, 0), m -> m.rule(FOLLOWS, 3, 0, 0, 0),
                m -> m.rule(NEVER, 0, 0, 0, 0), m -> m.atom(3, false, 1, 0, 0), m -> m.drop(1), m -> m.layer(3),
                m -> m.count(3), m -> m.rowAt(0, 6), m -> m.holds(3, 0, 0, 0), m -> m.holdsAnew(3, 0, 0, 0),
                m -> m.answers(3, 0, 0, 0), m -> m.goals(3, 0, 0, 0), m -> m.ways(3, 0, 0, 0), m -> m.height(3, 0, 0, 0),
                m -> m.price(3, 0, 0, 0), m -> m.needs(3, 0, 0, 0), m -> m.reaches(1, 0, 0, 0), m -> m.bindings(1),
                m -> m.repairAt(0)};
            On[] argument = {m -> m.relation(4, PLAIN), m -> m.relation(1, 3), m -> m.fact(0, 100, 0, 0, 1, NONE),
                m -> m.fact(0, 9, 0, 0, 0, NONE), m -> m.fact(0, 9, 0, 0, 1, 0), m -> m.takeBack(0, 0, 1, 0),
                m -> m.pass(0), m -> m.pass(101), m -> m.rule(4, 0, 0, 0, 0), m -> m.rule(FOLLOWS, 0, ANY, 0, 0),
                m -> m.rule(FOLLOWS, 0, 1, 1, 0), m -> m.rule(NEVER, NONE, 0, 0, 1), m -> m.atom(0, false, -2, 0, 0),
                m -> m.compare(4, 1, 1), m -> m.compare(SAME, 1, ANY), m -> m.reckon(99, PLUS, 1, 1),
                m -> m.reckon(X, 6, 1, 1), m -> m.reckon(X, PLUS, ANY, 1), m -> m.holds(0, 100, 0, 0),
                m -> m.holdsAnew(0, 100, 0, 0), m -> m.answers(0, -2, 0, 0), m -> m.goals(0, -2, 0, 0),
                m -> m.ways(0, 100, 0, 0), m -> m.height(0, 100, 0, 0), m -> m.price(0, 100, 0, 0),
                m -> m.needs(0, 100, 0, 0), m -> m.reaches(0, 100, 0, 0)};
            On[] state = {m -> m.fact(0, 3, 0, 0, 7, NONE), m -> m.takeBack(0, 9, 0, 0), m -> m.takeBack(1, 7, 0, 0)};
            for (On call : index) {
                dueUnchanged(INDEX, draft, call);
            }
            for (On call : argument) {
                dueUnchanged(ARGUMENT, draft, call);
            }
            for (On call : state) {
                dueUnchanged(STATE, draft, call);
            }
            unchangedByFull();
            unchangedByTooMuch();
        });
    }

    /** The world with a draft that has one literal, as a rule for 1(30). */
    private static DatalogMill drafted(DatalogMill m) {
        rule(m, FOLLOWS, 1, 30);
        atom(m, 0, 3);
        return m;
    }

    /** What there is, and what becomes of the draft, whether the call was made or not. */
    private static void dueUnchanged(int exception, World world, On call) {
        DatalogMill untouched = world.make();
        DatalogMill touched = world.make();
        refused("the call", exception, () -> call.make(touched));
        due("what there is", stateOf(touched), stateOf(untouched));
        due("relations", touchedBy(touched, m -> m.relation(1, PLAIN)), touchedBy(untouched, m -> m.relation(1, PLAIN)));
        due("the draft", touchedBy(touched, m -> m.compare(SAME, 1, 1)), touchedBy(untouched, m -> m.compare(SAME, 1, 1)));
        due("the draft", touchedBy(touched, m -> m.add()), touchedBy(untouched, m -> m.add()));
        due("what there is with the draft", stateOf(touched), stateOf(untouched));
    }

    private static String touchedBy(DatalogMill m, On call) {
        return thrown(() -> call.make(m)) + " " + stateOf(m);
    }

    private static void unchangedByFull() {
        World facts = () -> {
            DatalogMill m = plain(1, 1, 1, 1, 1, 1);
            for (int i = 0; i < 24; i++) {
                fact(m, i % 6, i);
            }
            return drafted(m);
        };
        dueUnchanged(STATE, facts, m -> m.fact(0, 90, 0, 0, 1, NONE));
        dueUnchanged(STATE, facts, m -> m.relation(1, PLAIN));
        World rules = () -> {
            DatalogMill m = plain(1, 1);
            for (int i = 0; i < 10; i++) {
                always(m, 0, i);
            }
            return drafted(m);
        };
        dueUnchanged(STATE, rules, m -> m.add());
        World noDraft = () -> with(plain(1), 1);
        dueUnchanged(STATE, noDraft, m -> m.atom(0, false, 1, 0, 0));
        dueUnchanged(STATE, noDraft, m -> m.compare(SAME, 1, 1));
        dueUnchanged(STATE, noDraft, m -> m.reckon(X, PLUS, 1, 1));
        dueUnchanged(STATE, noDraft, m -> m.add());
        World empty = () -> {
            DatalogMill m = plain(1, 1);
            rule(m, FOLLOWS, 1, 30);
            return m;
        };
        dueUnchanged(STATE, empty, m -> m.add());
        World atoms = () -> {
            DatalogMill m = drafted(brink());
            atom(m, 0, 4);
            atom(m, 0, 4);
            return m;
        };
        dueUnchanged(STATE, atoms, m -> m.atom(0, false, 5, 0, 0));
        World literals = () -> {
            DatalogMill m = drafted(brink());
            for (int i = 0; i < 3; i++) {
                m.compare(SAME, 1, 1);
            }
            return m;
        };
        dueUnchanged(STATE, literals, m -> m.atom(0, false, 9, 0, 0));
        dueUnchanged(STATE, literals, m -> m.compare(SAME, 1, 2));
        dueUnchanged(STATE, literals, m -> m.reckon(X, PLUS, 1, 1));
        World counts = () -> {
            DatalogMill m = plain(1, 1);
            rule(m, COUNTS, 1, 0);
            atom(m, 0, X);
            m.add();
            return m;
        };
        dueUnchanged(ARGUMENT, counts, m -> m.reaches(0, 0, 0, 0));
    }

    private static void unchangedByTooMuch() {
        World fact = () -> {
            DatalogMill m = brink();
            m.takeBack(0, 5, 0, 0);
            m.takeBack(1, 7, 0, 0);
            return drafted(m);
        };
        dueUnchanged(STATE, fact, m -> m.fact(0, 2, 0, 0, 1, NONE));
        dueUnchanged(STATE, fact, m -> m.fact(0, 50, 0, 0, 1, 4));
        World pass = () -> {
            DatalogMill m = brink();
            m.fact(1, 8, 0, 0, 1, 2);
            m.takeBack(1, 7, 0, 0);
            return drafted(m);
        };
        dueUnchanged(STATE, pass, m -> m.pass(2));
        dueUnchanged(STATE, pass, m -> m.pass(100));
        World drop = () -> {
            DatalogMill m = brink();
            always(m, 1, 9);
            always(m, 0, 2);
            m.takeBack(1, 7, 0, 0);
            return drafted(m);
        };
        dueUnchanged(STATE, drop, m -> m.drop(1));
        dueUnchanged(INDEX, drop, m -> m.drop(3));
        for (int i = 0; i < 4; i++) {
            int guard = i;
            dueUnchanged(STATE, () -> guarded(guard), m -> m.drop(guard));
        }
    }

    /** Four rules, of which this one keeps the pairs of 0 away by a row of 1, and lifts 1 to 4 by a layer. */
    private static DatalogMill guarded(int guard) {
        DatalogMill m = plain(1, 1, 2);
        m.relation(2, LEAST);
        m.relation(1, PLAIN);
        for (int i = 0; i < 6; i++) {
            fact(m, 0, i);
        }
        fact(m, 3, 8, 1);
        fact(m, 3, 9, 1);
        int told = 0;
        for (int i = 0; i < 4; i++) {
            if (i == guard) {
                rule(m, FOLLOWS, 1, X);
                atom(m, 3, X, ANY);
                m.compare(LESS, X, 10);
            } else if (told == 0) {
                rule(m, FOLLOWS, 4, X);
                atom(m, 1, X);
                told++;
            } else if (told == 1) {
                rule(m, FOLLOWS, 4, X);
                atom(m, 3, X, ANY);
                told++;
            } else {
                rule(m, FOLLOWS, 3, X, V);
                atom(m, 3, X, V);
            }
            due("add", m.add(), i);
        }
        due("the guard's row hangs on one of two facts", m.needs(1, 9, 0, 0), 1);
        rule(m, FOLLOWS, 2, X, Y);
        atom(m, 0, X);
        atom(m, 0, Y);
        not(m, 1, ANY);
        due("add", m.add(), 4);
        due("layer", m.layer(2), 2);
        return drafted(m);
    }

    private static void constants() {
        says("The constants: `NONE = -1`: There is none.", () -> due("NONE", DatalogMill.NONE, -1));
        says("`ANY = -1`: Whatever number.", () -> due("ANY", DatalogMill.ANY, -1));
        says("`PLAIN = 0, LEAST = 1, GREATEST = 2`: Kinds of relations.", () -> {
            due("PLAIN", DatalogMill.PLAIN, 0);
            due("LEAST", DatalogMill.LEAST, 1);
            due("GREATEST", DatalogMill.GREATEST, 2);
        });
        says("`FOLLOWS = 0, COUNTS = 1, SUMS = 2, NEVER = 3`: Kinds of rules.", () -> {
            due("FOLLOWS", DatalogMill.FOLLOWS, 0);
            due("COUNTS", DatalogMill.COUNTS, 1);
            due("SUMS", DatalogMill.SUMS, 2);
            due("NEVER", DatalogMill.NEVER, 3);
        });
        says("`SAME = 0, UNLIKE = 1, LESS = 2, AT_MOST = 3`: Comparisons.", () -> {
            due("SAME", DatalogMill.SAME, 0);
            due("UNLIKE", DatalogMill.UNLIKE, 1);
            due("LESS", DatalogMill.LESS, 2);
            due("AT_MOST", DatalogMill.AT_MOST, 3);
        });
        says("Reckonings: the sum; the first less the second; the product; the lesser; the greater; the rest of the first by the "
                + "second.", () -> {
            due("PLUS", DatalogMill.PLUS, 0);
            due("MINUS", DatalogMill.MINUS, 1);
            due("TIMES", DatalogMill.TIMES, 2);
            due("LESSER", DatalogMill.LESSER, 3);
            due("GREATER", DatalogMill.GREATER, 4);
            due("REST", DatalogMill.REST, 5);
            int[] due = {36, 14, 99, 11, 25, 3};
            for (int reckoning = PLUS; reckoning <= REST; reckoning++) {
                due("of 25 and 11", RuleTerms.made(reckoning, 25, 11), due[reckoning]);
            }
        });
        says("`UNSAFE = -2, LAYERLESS = -3, SHRINKING = -4, TOO_MUCH = -5`: Why a rule is refused.", () -> {
            due("UNSAFE", DatalogMill.UNSAFE, -2);
            due("LAYERLESS", DatalogMill.LAYERLESS, -3);
            due("SHRINKING", DatalogMill.SHRINKING, -4);
            due("TOO_MUCH", DatalogMill.TOO_MUCH, -5);
        });
        // FaceTest looks for these lines in the source.
        isFree("Ahead of the calls `relation`, `fact`");
        isFree("Ahead of the calls `rule`, `atom`");
        isFree("Ahead of the calls `count`, `rowAt`");
        isFree("Ahead of the calls `ways`, `height`");
        isFree("Ahead of the calls `bindings`, `repair`");
    }
}
