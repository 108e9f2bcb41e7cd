/**
 * For each promise of the document ordinary inputs, the edges that it names, and wrong inputs. What is due was
 * worked out by hand from the document. A method promiseN tests promise N.
 */
public final class PromiseTest extends Checks {
    public static void main(String[] arguments) {
        promise1();
        promise2();
        promise3();
        promise4();
        promise5();
        promise6And7();
        promise8();
        promise9();
        promise10();
        promise11();
        promise12();
        promise12Unsafe();
        allVariables();
        promise12Layerless();
        promise12Shrinking();
        promise12TooMuch();
        promise13And14();
        promise15();
        promise16And17();
        promise18And19();
        promise20();
        promise21();
        promise22And23();
        promise24();
        promise25And26();
        promise27();
        promise28();
        promise29();
        promise30And31();
        rowsByLayers();
        groups();
        reckonings();
        end();
    }

    // ---- relations and facts

    private static void promise1() {
        place = "promise 1";
        DatalogMill m = new DatalogMill();
        due("now", m.now(), 0);
        due("facts", m.facts(), 0);
        due("rules", m.rules(), 0);
        due("came", m.came(), 0);
        due("went", m.went(), 0);
        due("repair", m.repair(), 0);
        refused("count(0)", INDEX, () -> m.count(0));
        refused("add", STATE, m::add);
        refused("compare", STATE, () -> m.compare(SAME, 1, 1));
        DatalogMill other = new DatalogMill();
        other.relation(1, PLAIN);
        refused("count(0) of the first", INDEX, () -> m.count(0));
    }

    private static void promise2() {
        place = "promise 2";
        DatalogMill m = new DatalogMill();
        refused("relation(0, PLAIN)", ARGUMENT, () -> m.relation(0, PLAIN));
        refused("relation(4, PLAIN)", ARGUMENT, () -> m.relation(4, PLAIN));
        refused("relation(1, -1)", ARGUMENT, () -> m.relation(1, -1));
        refused("relation(1, 3)", ARGUMENT, () -> m.relation(1, 3));
        for (int i = 0; i < 6; i++) {
            due("relation", m.relation(1 + i % 3, i % 3), i);
        }
        refused("a seventh", STATE, () -> m.relation(1, PLAIN));
        refused("a wrong seventh", ARGUMENT, () -> m.relation(4, PLAIN));
        due("count(5)", m.count(5), 0);
        refused("count(6)", INDEX, () -> m.count(6));
    }

    private static void promise3() {
        place = "promise 3";
        DatalogMill m = new DatalogMill();
        m.relation(2, PLAIN);
        m.relation(3, LEAST);
        due("fact", m.fact(0, 0, 99, 0, 1, NONE), 1);
        due("fact", m.fact(0, 99, 0, 0, 99, 1), 2);
        due("fact of the same key", m.fact(1, 1, 2, 9, 5, NONE), 3);
        due("fact of the same key", m.fact(1, 1, 2, 7, 5, NONE), 4);
        dueRows(m, 1, 10207);
        refused("relation -1", INDEX, () -> m.fact(-1, 100, 0, 0, 0, 0));
        refused("relation 2", INDEX, () -> m.fact(2, 1, 1, 0, 1, NONE));
        refused("row -1", ARGUMENT, () -> m.fact(0, -1, 1, 0, 1, NONE));
        refused("row 100", ARGUMENT, () -> m.fact(0, 1, 100, 0, 1, NONE));
        refused("behind the columns", ARGUMENT, () -> m.fact(0, 1, 1, 1, 1, NONE));
        refused("price 0", ARGUMENT, () -> m.fact(0, 1, 1, 0, 0, NONE));
        refused("price 100", ARGUMENT, () -> m.fact(0, 1, 1, 0, 100, NONE));
        refused("end 0", ARGUMENT, () -> m.fact(0, 1, 1, 0, 1, 0));
        refused("end -2", ARGUMENT, () -> m.fact(0, 1, 1, 0, 1, -2));
        refused("there already, price wrong", ARGUMENT, () -> m.fact(0, 0, 99, 0, 0, NONE));
        refused("there already", STATE, () -> m.fact(0, 0, 99, 0, 7, 3));
        m.pass(5);
        refused("end is now", ARGUMENT, () -> m.fact(0, 1, 1, 0, 1, 5));
        due("end 6", m.fact(0, 1, 1, 0, 1, 6), 4);
        due("end far off", m.fact(0, 1, 2, 0, 1, Integer.MAX_VALUE), 5);
        for (int i = 5; i < 24; i++) {
            due("fact", m.fact(0, i, i, 0, 1, NONE), i + 1);
        }
        refused("a 25th", STATE, () -> m.fact(0, 98, 98, 0, 1, NONE));
        due("facts", m.facts(), 24);
        DatalogMill full = plain(1, 2);
        rule(full, FOLLOWS, 1, X, Y);
        atom(full, 0, X);
        atom(full, 0, Y);
        full.add();
        for (int i = 0; i < 5; i++) {
            fact(full, 0, i);
        }
        refused("36 rows", STATE, () -> full.fact(0, 5, 0, 0, 1, NONE));
        due("facts", full.facts(), 5);
        due("came by the one before", full.came(), 10);
        due("count", full.count(1), 25);
    }

    private static void promise4() {
        place = "promise 4";
        DatalogMill m = new DatalogMill();
        m.relation(2, GREATEST);
        m.fact(0, 1, 5, 0, 42, NONE);
        m.fact(0, 1, 8, 0, 7, NONE);
        dueRows(m, 0, 10800);
        refused("relation 1", INDEX, () -> m.takeBack(1, 200, 0, 0));
        refused("row", ARGUMENT, () -> m.takeBack(0, 1, 8, 1));
        refused("row", ARGUMENT, () -> m.takeBack(0, 1, 100, 0));
        refused("no such fact", STATE, () -> m.takeBack(0, 1, 7, 0));
        due("takeBack", m.takeBack(0, 1, 8, 0), 7);
        dueRows(m, 0, 10500);
        due("takeBack", m.takeBack(0, 1, 5, 0), 42);
        refused("not twice", STATE, () -> m.takeBack(0, 1, 5, 0));
        due("facts", m.facts(), 0);
        DatalogMill full = brink();
        refused("too much", STATE, () -> full.takeBack(1, 7, 0, 0));
        due("facts", full.facts(), 7);
        due("still there", full.holds(1, 7, 0, 0), true);
        due("count", full.count(2), 0);
        full.takeBack(0, 3, 0, 0);
        due("takeBack is not too much now", full.takeBack(1, 7, 0, 0), 1);
        due("count", full.count(2), 25);
    }

    private static void promise5() {
        place = "promise 5";
        DatalogMill m = plain(1);
        m.fact(0, 1, 0, 0, 1, 1);
        m.fact(0, 2, 0, 0, 1, 2);
        m.fact(0, 3, 0, 0, 1, 3);
        m.fact(0, 4, 0, 0, 1, NONE);
        refused("pass(0)", ARGUMENT, () -> m.pass(0));
        refused("pass(101)", ARGUMENT, () -> m.pass(101));
        refused("pass(-1)", ARGUMENT, () -> m.pass(-1));
        due("pass(2)", m.pass(2), 2);
        dueRows(m, 0, 30000, 40000);
        due("pass(100)", m.pass(100), 1);
        due("pass(1)", m.pass(1), 0);
        due("now", m.now(), 103);
        DatalogMill full = brink();
        full.fact(1, 8, 0, 0, 1, 2);
        full.takeBack(1, 7, 0, 0);
        refused("too much at the end", STATE, () -> full.pass(2));
        due("now", full.now(), 0);
        due("facts", full.facts(), 7);
        due("pass(1)", full.pass(1), 0);
        fact(full, 1, 9);
        due("pass(1)", full.pass(1), 1);
        DatalogMill between = brink();
        between.fact(0, 10, 0, 0, 1, 3);
        between.fact(1, 8, 0, 0, 1, 2);
        between.takeBack(1, 7, 0, 0);
        between.takeBack(0, 0, 0, 0);
        between.takeBack(0, 1, 0, 0);
        fact(between, 0, 1);
        refused("too much after 2 steps", STATE, () -> between.pass(2));
        due("not too much after 3 steps", between.pass(3), 2);
        due("count", between.count(2), 25);
    }

    private static void promise6And7() {
        place = "promises 6 and 7";
        DatalogMill m = plain(1);
        m.pass(100);
        m.pass(7);
        due("now", m.now(), 107);
        due("facts", m.facts(), 0);
        fact(m, 0, 1);
        fact(m, 0, 2);
        due("facts", m.facts(), 2);
        m.takeBack(0, 1, 0, 0);
        due("facts", m.facts(), 1);
        due("now", m.now(), 107);
    }

    // ---- rules

    private static void promise8() {
        place = "promise 8";
        DatalogMill m = plain(2);
        refused("FOLLOWS, NONE", INDEX, () -> m.rule(FOLLOWS, NONE, 0, 0, 0));
        refused("COUNTS, 1", INDEX, () -> m.rule(COUNTS, 1, 0, 0, 0));
        refused("NEVER, 0", INDEX, () -> m.rule(NEVER, 0, 0, 0, 0));
        refused("NEVER, -2", INDEX, () -> m.rule(NEVER, -2, 0, 0, 0));
        refused("kind 4, relation 1", INDEX, () -> m.rule(4, 1, 0, 0, 0));
        refused("kind -1, relation -2", INDEX, () -> m.rule(-1, -2, 0, 0, 0));
        refused("kind 4, relation 0", ARGUMENT, () -> m.rule(4, 0, 0, 0, 0));
        refused("kind -1, NONE", ARGUMENT, () -> m.rule(-1, NONE, 0, 0, 0));
        refused("ANY in the head", ARGUMENT, () -> m.rule(FOLLOWS, 0, X, ANY, 0));
        refused("108", ARGUMENT, () -> m.rule(FOLLOWS, 0, 108, X, 0));
        refused("behind the columns", ARGUMENT, () -> m.rule(SUMS, 0, X, Y, Z));
        refused("NEVER with a term", ARGUMENT, () -> m.rule(NEVER, NONE, 0, 0, 1));
        refused("no draft was begun", STATE, () -> m.compare(SAME, 0, 0));
        m.rule(FOLLOWS, 0, 99, 0, 0);
        due("compare", m.compare(SAME, 0, 0), 1);
        refused("a wrong rule", ARGUMENT, () -> m.rule(FOLLOWS, 0, 108, X, 0));
        due("compare goes on", m.compare(SAME, 0, 0), 2);
        m.rule(FOLLOWS, 0, 98, 97, 0);
        due("compare begins anew", m.compare(SAME, 0, 0), 1);
        due("add", m.add(), 0);
        dueRows(m, 0, 989700);
        m.rule(NEVER, NONE, 0, 0, 0);
        atom(m, 0, LAST, LAST);
        due("add", m.add(), 1);
    }

    private static void promise9() {
        place = "promise 9";
        DatalogMill m = plain(2);
        refused("relation 1", INDEX, () -> m.atom(1, false, 200, 0, 0));
        refused("relation -1", INDEX, () -> m.atom(-1, false, 0, 0, 0));
        refused("a term, no draft", ARGUMENT, () -> m.atom(0, false, 108, 0, 0));
        refused("no draft", STATE, () -> m.atom(0, false, 1, 1, 0));
        m.rule(NEVER, NONE, 0, 0, 0);
        refused("-2", ARGUMENT, () -> m.atom(0, false, -2, 0, 0));
        refused("108", ARGUMENT, () -> m.atom(0, false, 0, 108, 0));
        refused("ANY behind the columns", ARGUMENT, () -> m.atom(0, false, 0, 0, ANY));
        due("atom", m.atom(0, false, 107, ANY, 0), 1);
        due("atom", m.atom(0, true, 0, 99, 0), 2);
        due("atom", m.atom(0, false, 100, 100, 0), 3);
        refused("a fourth atom", STATE, () -> m.atom(0, true, 1, 1, 0));
        due("compare", m.compare(SAME, 1, 1), 4);
        due("add", m.add(), 0);
        m.rule(NEVER, NONE, 0, 0, 0);
        for (int i = 1; i <= 4; i++) {
            due("compare", m.compare(SAME, 1, 1), i);
        }
        refused("a fifth literal", STATE, () -> m.atom(0, false, 1, 1, 0));
    }

    private static void promise10() {
        place = "promise 10";
        DatalogMill m = plain(2, 1, 1, 1, 1);
        refused("a comparison, no draft", ARGUMENT, () -> m.compare(4, 0, 0));
        refused("no draft", STATE, () -> m.compare(SAME, 0, 0));
        rule(m, FOLLOWS, 1, X);
        refused("-1", ARGUMENT, () -> m.compare(-1, 0, 0));
        refused("4", ARGUMENT, () -> m.compare(4, 0, 0));
        refused("ANY left", ARGUMENT, () -> m.compare(SAME, ANY, 0));
        refused("ANY right", ARGUMENT, () -> m.compare(SAME, 0, ANY));
        refused("108", ARGUMENT, () -> m.compare(SAME, 108, 0));
        fact(m, 0, 1, 2);
        fact(m, 0, 2, 2);
        fact(m, 0, 3, 2);
        for (int comparison = SAME; comparison <= AT_MOST; comparison++) {
            rule(m, FOLLOWS, 1 + comparison, X);
            atom(m, 0, X, Y);
            due("compare", m.compare(comparison, X, Y), 2);
            due("add", m.add(), comparison);
        }
        dueRows(m, 1, 20000);
        dueRows(m, 2, 10000, 30000);
        dueRows(m, 3, 10000);
        dueRows(m, 4, 10000, 20000);
        m.rule(NEVER, NONE, 0, 0, 0);
        for (int i = 1; i <= 4; i++) {
            due("compare", m.compare(SAME, 1, 1), i);
        }
        refused("a fifth literal", STATE, () -> m.compare(SAME, 1, 1));
        refused("a wrong fifth literal", ARGUMENT, () -> m.compare(5, 1, 1));
    }

    private static void promise11() {
        place = "promise 11";
        DatalogMill m = plain(1);
        refused("no draft, no variable", ARGUMENT, () -> m.reckon(99, PLUS, 0, 0));
        refused("no draft", STATE, () -> m.reckon(X, PLUS, 0, 0));
        rule(m, FOLLOWS, 0, X);
        refused("108", ARGUMENT, () -> m.reckon(108, PLUS, 0, 0));
        refused("ANY", ARGUMENT, () -> m.reckon(ANY, PLUS, 0, 0));
        refused("reckoning -1", ARGUMENT, () -> m.reckon(X, -1, 0, 0));
        refused("reckoning 6", ARGUMENT, () -> m.reckon(X, 6, 0, 0));
        refused("ANY left", ARGUMENT, () -> m.reckon(X, PLUS, ANY, 0));
        refused("108 right", ARGUMENT, () -> m.reckon(X, PLUS, 0, 108));
        due("reckon", m.reckon(Y, TIMES, 6, 7), 1);
        due("reckon", m.reckon(Z, MINUS, Y, 2), 2);
        due("reckon", m.reckon(V, GREATER, Z, Y), 3);
        due("reckon", m.reckon(X, REST, V, 10), 4);
        refused("a fifth literal", STATE, () -> m.reckon(W, PLUS, 0, 0));
        due("add", m.add(), 0);
        dueRows(m, 0, 20000);
    }

    private static void promise12() {
        place = "promise 12";
        DatalogMill m = plain(1);
        refused("no draft", STATE, m::add);
        rule(m, FOLLOWS, 0, 7);
        refused("no literals", STATE, m::add);
        m.compare(SAME, 1, 1);
        due("add", m.add(), 0);
        refused("the draft is gone", STATE, m::add);
        refused("the draft is gone", STATE, () -> m.compare(SAME, 1, 1));
        rule(m, FOLLOWS, 0, X);
        m.compare(SAME, 1, 1);
        due("refused", m.add(), UNSAFE);
        refused("the draft is gone", STATE, () -> m.compare(SAME, 1, 1));
        due("rules", m.rules(), 1);
        for (int i = 1; i < 10; i++) {
            m.rule(NEVER, NONE, 0, 0, 0);
            m.compare(SAME, 1, 2);
            due("add", m.add(), i);
        }
        m.rule(NEVER, NONE, 0, 0, 0);
        m.compare(SAME, 1, 2);
        refused("an eleventh", STATE, m::add);
        m.drop(4);
        due("the draft is still there", m.compare(SAME, 3, 4), 2);
        due("a number is not used anew", m.add(), 10);
        due("rules", m.rules(), 10);
        refused("rule 4", INDEX, () -> m.bindings(4));
        m.drop(10);
        m.rule(NEVER, NONE, 0, 0, 0);
        m.compare(SAME, 1, 2);
        due("a number is not used anew", m.add(), 11);
    }

    private static void promise12Unsafe() {
        place = "promise 12, UNSAFE";
        DatalogMill m = plain(2, 2);
        rule(m, FOLLOWS, 1, X, X);
        not(m, 0, X, ANY);
        due("negated", m.add(), UNSAFE);
        rule(m, FOLLOWS, 1, X, X);
        not(m, 0, 1, ANY);
        atom(m, 0, X, X);
        due("negated without variables", m.add(), 0);
        rule(m, FOLLOWS, 1, X, X);
        m.compare(SAME, X, 1);
        atom(m, 0, X, X);
        due("compared ahead", m.add(), UNSAFE);
        rule(m, FOLLOWS, 1, X, Y);
        atom(m, 0, X, ANY);
        due("head", m.add(), UNSAFE);
        rule(m, FOLLOWS, 1, X, Y);
        atom(m, 0, X, ANY);
        m.reckon(Y, PLUS, X, 1);
        due("made", m.add(), 1);
        rule(m, FOLLOWS, 1, X, Y);
        atom(m, 0, X, Y);
        m.reckon(Y, PLUS, X, 1);
        due("made and known", m.add(), UNSAFE);
        rule(m, FOLLOWS, 1, X, Y);
        m.reckon(Y, PLUS, 3, 1);
        atom(m, 0, X, Y);
        due("made, then in an atom", m.add(), 2);
        rule(m, FOLLOWS, 1, X, X);
        m.reckon(X, PLUS, X, 1);
        due("of itself", m.add(), UNSAFE);
        rule(m, FOLLOWS, 1, X, Y);
        atom(m, 0, X, ANY);
        m.reckon(Y, PLUS, Z, 1);
        due("reckoned with what is not known", m.add(), UNSAFE);
        rule(m, FOLLOWS, 1, X, Y);
        atom(m, 0, X, ANY);
        m.reckon(Y, PLUS, 1, Z);
        due("reckoned with what is not known", m.add(), UNSAFE);
        rule(m, COUNTS, 1, X, Y);
        atom(m, 0, X, Y);
        due("COUNTS without 0", m.add(), UNSAFE);
        rule(m, COUNTS, 1, X, 1);
        atom(m, 0, X, Y);
        due("COUNTS with 1", m.add(), UNSAFE);
        rule(m, SUMS, 1, X, Y);
        atom(m, 0, X, ANY);
        due("SUMS of what is not known", m.add(), UNSAFE);
        rule(m, NEVER, NONE);
        atom(m, 0, X, Y);
        m.compare(LESS, Z, Y);
        due("NEVER too", m.add(), UNSAFE);
        rule(m, FOLLOWS, 1, X, Y);
        atom(m, 1, X, X);
        not(m, 1, X, X);
        due("UNSAFE ahead of LAYERLESS", m.add(), UNSAFE);
        due("rules", m.rules(), 3);
    }

    /** Each of the eight variables in each place where one can stand. */
    private static void allVariables() {
        place = "variables";
        for (int v = X; v <= LAST; v++) {
            DatalogMill m = plain(2, 2);
            int other = v == X ? Y : v - 1;
            fact(m, 0, 3, 4);
            fact(m, 0, 5, 5);
            rule(m, FOLLOWS, 1, v, other);
            atom(m, 0, v, ANY);
            m.reckon(other, PLUS, 1, v);
            m.compare(LESS, other, 9);
            not(m, 0, other, v);
            due("add", m.add(), 0);
            dueRows(m, 1, 30400, 50600);
            rule(m, SUMS, 1, 9, v);
            atom(m, 0, other, v);
            due("add", m.add(), 1);
            dueRows(m, 1, 30400, 50600, 90900);
            rule(m, FOLLOWS, 1, v, v);
            atom(m, 0, v, v);
            due("add", m.add(), 2);
            dueRows(m, 1, 30400, 50500, 50600, 90900);
            due("goals: 1(7, 7), 0(7, ANY), 0(7, 7)", m.goals(1, 7, 7, 0), 3);
            due("goals: 1(9, 7), 0(9, ANY), 0(ANY, ANY)", m.goals(1, 9, 7, 0), 3);
            due("reaches", m.reaches(0, 3, 4, 0), 4);
            due("height", m.height(1, 5, 6, 0), 1);
        }
    }

    private static void promise12Layerless() {
        place = "promise 12, LAYERLESS";
        DatalogMill m = plain(1, 1, 1, 2);
        rule(m, FOLLOWS, 1, X);
        atom(m, 0, X);
        not(m, 1, X);
        due("not itself", m.add(), LAYERLESS);
        rule(m, FOLLOWS, 1, X);
        atom(m, 0, X);
        not(m, 2, X);
        due("not 2", m.add(), 0);
        rule(m, FOLLOWS, 2, X);
        atom(m, 1, X);
        due("2 of 1, which is not 2", m.add(), LAYERLESS);
        rule(m, COUNTS, 3, X, 0);
        atom(m, 1, X);
        due("COUNTS", m.add(), 1);
        rule(m, FOLLOWS, 1, X);
        atom(m, 3, X, ANY);
        due("1 of 3, which counts 1", m.add(), LAYERLESS);
        rule(m, SUMS, 3, X, Y);
        atom(m, 3, X, Y);
        due("SUMS of itself", m.add(), LAYERLESS);
        rule(m, NEVER, NONE);
        atom(m, 3, X, Y);
        not(m, 1, X);
        due("NEVER is in no circle", m.add(), 2);
        m.drop(0);
        rule(m, FOLLOWS, 2, X);
        atom(m, 1, X);
        due("without rule 0", m.add(), 3);
        due("layer(2)", m.layer(2), 0);
        due("layer(3)", m.layer(3), 1);
        rule(m, FOLLOWS, 1, X);
        atom(m, 0, X);
        not(m, 2, X);
        due("LAYERLESS ahead of TOO_MUCH", m.add(), LAYERLESS);
        due("rules", m.rules(), 3);
    }

    private static void dueFor(DatalogMill m, String what, boolean isGood) {
        int added = m.add();
        due(what, added == SHRINKING ? SHRINKING : added >= 0 ? 0 : added, isGood ? 0 : SHRINKING);
        if (added >= 0) {
            m.drop(added);
        }
    }

    private static void promise12Shrinking() {
        place = "promise 12, SHRINKING";
        DatalogMill m = valued();
        for (int reckoning = PLUS; reckoning <= REST; reckoning++) {
            for (int side = 0; side < 2; side++) {
                rule(m, FOLLOWS, 1, X, W);
                atom(m, 1, X, V);
                atom(m, 5, Y);
                m.reckon(W, reckoning, side == 0 ? V : Y, side == 0 ? Y : V);
                boolean isGood = reckoning != REST && (reckoning != MINUS || side == 0);
                dueFor(m, "LEAST by " + reckoning + " on side " + side, isGood);
                rule(m, FOLLOWS, 2, X, W);
                atom(m, 2, X, V);
                atom(m, 5, Y);
                m.reckon(W, reckoning, side == 0 ? V : Y, side == 0 ? Y : V);
                dueFor(m, "GREATEST by " + reckoning + " on side " + side, isGood);
            }
        }
        for (int comparison = SAME; comparison <= AT_MOST; comparison++) {
            for (int kind = LEAST; kind <= GREATEST; kind++) {
                for (int side = 0; side < 2; side++) {
                    rule(m, FOLLOWS, kind, X, V);
                    atom(m, kind, X, V);
                    m.compare(comparison, side == 0 ? V : 9, side == 0 ? 9 : V);
                    boolean isGood = comparison >= LESS && (kind == LEAST) == (side == 0);
                    dueFor(m, "kind " + kind + " compared by " + comparison + " on side " + side, isGood);
                }
            }
        }
        rule(m, FOLLOWS, 1, X, V);
        atom(m, 1, X, 7);
        m.reckon(V, PLUS, 1, 1);
        dueFor(m, "a number as value", false);
        rule(m, FOLLOWS, 1, X, 3);
        atom(m, 1, X, ANY);
        dueFor(m, "ANY as value", true);
        rule(m, FOLLOWS, 1, X, V);
        atom(m, 5, V);
        atom(m, 1, X, V);
        dueFor(m, "a value that a literal ahead has", false);
        rule(m, FOLLOWS, 1, X, V);
        m.reckon(V, PLUS, 1, 1);
        atom(m, 1, X, V);
        dueFor(m, "a value that was made ahead", false);
        rule(m, FOLLOWS, 1, X, V);
        atom(m, 1, X, V);
        atom(m, 5, V);
        dueFor(m, "a value in an atom behind it", false);
        rule(m, FOLLOWS, 1, X, V);
        atom(m, 1, X, V);
        not(m, 5, V);
        dueFor(m, "a value in a negated atom", false);
        rule(m, FOLLOWS, 1, X, 1);
        atom(m, 1, X, X);
        dueFor(m, "key and value", false);
        rule(m, FOLLOWS, 1, V, 1);
        atom(m, 1, X, V);
        dueFor(m, "a value as key of the head", false);
        rule(m, FOLLOWS, 1, V, V);
        atom(m, 1, X, V);
        dueFor(m, "a value as key and value of the head", false);
        rule(m, FOLLOWS, 1, X, W);
        atom(m, 1, X, V);
        atom(m, 1, Y, U);
        m.reckon(W, LESSER, U, V);
        dueFor(m, "two that fall", true);
        rule(m, FOLLOWS, 1, X, W);
        atom(m, 1, X, V);
        atom(m, 1, Y, U);
        m.reckon(W, MINUS, U, V);
        dueFor(m, "one that falls less one that falls", false);
        rule(m, FOLLOWS, 1, X, V);
        atom(m, 1, X, V);
        atom(m, 1, Y, U);
        m.compare(LESS, V, U);
        dueFor(m, "two that fall compared", false);
        rule(m, FOLLOWS, 3, X, V);
        atom(m, 1, X, V);
        dueFor(m, "far values are free", true);
        rule(m, COUNTS, 3, X, 0);
        atom(m, 1, X, 7);
        dueFor(m, "COUNTS is free", true);
        rule(m, NEVER, NONE);
        atom(m, 1, X, 7);
        dueFor(m, "NEVER is free", true);
        twoKinds();
    }

    private static void twoKinds() {
        DatalogMill m = valued();
        rule(m, FOLLOWS, 2, X, V);
        atom(m, 1, X, V);
        due("2 of 1, far", m.add(), 0);
        rule(m, FOLLOWS, 1, X, 5);
        atom(m, 2, X, ANY);
        due("1 of 2 makes a circle, in which a falling value is in a rising head", m.add(), SHRINKING);
        m.drop(0);
        rule(m, FOLLOWS, 1, X, 5);
        atom(m, 2, X, ANY);
        due("1 of 2", m.add(), 1);
        rule(m, FOLLOWS, 2, X, W);
        atom(m, 1, X, V);
        m.reckon(W, MINUS, 50, V);
        due("what falls, taken from a number, rises", m.add(), 2);
        rule(m, FOLLOWS, 2, X, W);
        atom(m, 1, X, V);
        atom(m, 2, Y, U);
        m.reckon(W, MINUS, U, V);
        due("what rises less what falls is neither", m.add(), SHRINKING);
        rule(m, FOLLOWS, 2, X, W);
        atom(m, 1, X, V);
        atom(m, 2, Y, U);
        m.reckon(W, PLUS, U, V);
        due("what rises and what falls", m.add(), SHRINKING);
        rule(m, FOLLOWS, 5, X);
        atom(m, 1, X, V);
        atom(m, 2, X, U);
        m.compare(AT_MOST, V, U);
        due("not in the circle", m.add(), 3);
        rule(m, FOLLOWS, 1, X, 9);
        atom(m, 5, X);
        due("now in the circle: what falls compared with what rises", m.add(), SHRINKING);
        fact(m, 1, 3, 8);
        dueRows(m, 1, 30500);
        dueRows(m, 2, 34500);
    }

    private static void promise12TooMuch() {
        place = "promise 12, TOO_MUCH";
        DatalogMill m = plain(1, 2);
        for (int i = 0; i < 6; i++) {
            fact(m, 0, i);
        }
        rule(m, FOLLOWS, 1, X, Y);
        atom(m, 0, X);
        atom(m, 0, Y);
        due("36 rows", m.add(), TOO_MUCH);
        due("rules", m.rules(), 0);
        due("count", m.count(1), 0);
        due("came by the last fact", m.came(), 1);
        rule(m, FOLLOWS, 1, X, Y);
        atom(m, 0, X);
        atom(m, 0, Y);
        m.compare(LESS, X, Y);
        due("15 rows", m.add(), 0);
        rule(m, FOLLOWS, 0, 31);
        m.compare(LESS, 0, 1);
        due("add", m.add(), 1);
        due("21 rows", m.count(1), 21);
        DatalogMill n = plain(1);
        n.fact(0, 0, 0, 0, 1, NONE);
        rule(n, FOLLOWS, 0, Y);
        atom(n, 0, X);
        n.compare(LESS, X, 31);
        n.reckon(Y, PLUS, X, 1);
        due("just 32 rows", n.add(), 0);
        due("count", n.count(0), 32);
        refused("33 rows", STATE, () -> n.fact(0, 40, 0, 0, 1, NONE));
        rule(n, FOLLOWS, 0, 32);
        n.compare(SAME, 0, 0);
        due("33 rows", n.add(), TOO_MUCH);
        due("count", n.count(0), 32);
    }

    private static void promise13And14() {
        place = "promises 13 and 14";
        DatalogMill m = paths();
        fact(m, 0, 1, 2);
        fact(m, 0, 2, 3);
        due("rules", m.rules(), 2);
        due("count", m.count(1), 3);
        refused("drop(2)", INDEX, () -> m.drop(2));
        refused("drop(-1)", INDEX, () -> m.drop(-1));
        m.drop(1);
        dueRows(m, 1, 10200, 20300);
        due("went", m.went(), 1);
        refused("drop(1) again", INDEX, () -> m.drop(1));
        due("rules", m.rules(), 1);
        m.drop(0);
        due("rules", m.rules(), 0);
        due("count", m.count(1), 0);
        DatalogMill full = brink();
        full.rule(NEVER, NONE, 0, 0, 0);
        atom(full, 2, X, Y);
        due("add", full.add(), 1);
        rule(full, FOLLOWS, 1, 9);
        full.compare(SAME, 1, 1);
        due("add", full.add(), 2);
        full.takeBack(1, 7, 0, 0);
        refused("too much", STATE, () -> full.drop(2));
        due("rules", full.rules(), 3);
        due("still there", full.bindings(2), 1);
        full.drop(0);
        due("order", full.bindings(1), 0);
        full.drop(2);
        due("rules", full.rules(), 1);
        dropInTheMiddle();
    }

    /** A rule that may not go stays where it was, and so do the others. */
    private static void dropInTheMiddle() {
        for (int guard = 0; guard < 4; guard++) {
            DatalogMill m = plain(1, 1, 2, 1);
            for (int i = 0; i < 6; i++) {
                fact(m, 0, i);
            }
            for (int i = 0; i < 4; i++) {
                rule(m, FOLLOWS, i == guard ? 1 : 3, 10 + i);
                m.compare(SAME, 1, 1);
                due("add", m.add(), i);
            }
            rule(m, FOLLOWS, 2, X, Y);
            atom(m, 0, X);
            atom(m, 0, Y);
            not(m, 1, ANY);
            due("add", m.add(), 4);
            int kept = guard;
            refused("drop(" + guard + ")", STATE, () -> m.drop(kept));
            due("rules", m.rules(), 5);
            due("layer", m.layer(2), 1);
            for (int i = 0; i < 4; i++) {
                due("rule " + i, m.reaches(i, 10 + i, 0, 0), 1);
            }
            m.takeBack(0, 3, 0, 0);
            m.drop(guard);
            due("count", m.count(2), 25);
            refused("bindings(" + guard + ")", INDEX, () -> m.bindings(kept));
            due("rules", m.rules(), 4);
            due("count", m.count(3), 3);
        }
    }

    private static void promise15() {
        place = "promise 15";
        DatalogMill m = valued();
        refused("layer(6)", INDEX, () -> m.layer(6));
        refused("layer(-1)", INDEX, () -> m.layer(-1));
        due("layer(0)", m.layer(0), 0);
        rule(m, FOLLOWS, 3, X, Y);
        atom(m, 0, X, Y, ANY);
        m.add();
        due("near PLAIN", m.layer(3), 0);
        rule(m, FOLLOWS, 1, X, V);
        atom(m, 3, X, V);
        not(m, 5, X);
        m.add();
        due("far, as it is negated", m.layer(1), 1);
        rule(m, FOLLOWS, 1, X, V);
        atom(m, 1, X, V);
        m.add();
        due("near in its own circle", m.layer(1), 1);
        rule(m, FOLLOWS, 2, X, V);
        atom(m, 1, X, V);
        int last = m.add();
        due("far, as it is LEAST", m.layer(2), 2);
        rule(m, SUMS, 4, V);
        atom(m, 2, ANY, V);
        m.add();
        due("far, as it is SUMS", m.layer(4), 3);
        m.drop(last);
        due("without a rule", m.layer(2), 0);
        due("without a rule", m.layer(4), 1);
        rule(m, NEVER, NONE);
        not(m, 4, 1);
        m.add();
        due("NEVER lifts nothing", m.layer(4), 1);
    }

    // ---- rows

    private static void promise16And17() {
        place = "promises 16 and 17";
        DatalogMill m = plain(3, 1);
        fact(m, 0, 9, 1, 1);
        fact(m, 0, 1, 9, 1);
        fact(m, 0, 1, 1, 9);
        fact(m, 0, 1, 1, 10);
        fact(m, 0, 0, 99, 99);
        dueRows(m, 0, 9999, 10109, 10110, 10901, 90101);
        due("count(1)", m.count(1), 0);
        refused("count(2)", INDEX, () -> m.count(2));
        refused("count(-1)", INDEX, () -> m.count(-1));
        refused("rowAt(2, 0)", INDEX, () -> m.rowAt(2, 0));
        refused("rowAt(0, 5)", INDEX, () -> m.rowAt(0, 5));
        refused("rowAt(0, -1)", INDEX, () -> m.rowAt(0, -1));
        refused("rowAt(1, 0)", INDEX, () -> m.rowAt(1, 0));
        fact(m, 1, 5);
        due("one column", m.rowAt(1, 0), 50000);
    }

    private static void promise18And19() {
        place = "promises 18 and 19";
        DatalogMill m = paths();
        fact(m, 0, 1, 2);
        fact(m, 0, 2, 1);
        due("holds", m.holds(1, 1, 1, 0), true);
        due("holds", m.holds(1, 1, 3, 0), false);
        due("holdsAnew", m.holdsAnew(1, 1, 1, 0), true);
        due("holdsAnew", m.holdsAnew(1, 1, 3, 0), false);
        m.takeBack(0, 2, 1, 0);
        due("holds", m.holds(1, 1, 1, 0), false);
        due("holdsAnew", m.holdsAnew(1, 1, 1, 0), false);
        due("holdsAnew", m.holdsAnew(1, 1, 2, 0), true);
        refused("holds", INDEX, () -> m.holds(3, 0, 0, 0));
        refused("holds", ARGUMENT, () -> m.holds(1, 0, 0, 1));
        refused("holds", ARGUMENT, () -> m.holds(1, ANY, 0, 0));
        refused("holdsAnew", INDEX, () -> m.holdsAnew(-1, 0, 0, 0));
        refused("holdsAnew", ARGUMENT, () -> m.holdsAnew(2, 100, 0, 0));
        due("went is not changed by holdsAnew", m.went(), 4);
        DatalogMill v = valued();
        fact(v, 1, 4, 9);
        fact(v, 1, 4, 7);
        due("not the least", v.holds(1, 4, 9, 0), false);
        due("the least", v.holdsAnew(1, 4, 7, 0), true);
    }

    private static void promise20() {
        place = "promise 20";
        DatalogMill m = plain(3, 2);
        fact(m, 0, 1, 2, 3);
        fact(m, 0, 1, 2, 4);
        fact(m, 0, 1, 3, 4);
        fact(m, 1, 0, 0);
        due("all", m.answers(0, ANY, ANY, ANY), 3);
        due("a", m.answers(0, 1, ANY, ANY), 3);
        due("b", m.answers(0, ANY, 2, ANY), 2);
        due("c", m.answers(0, ANY, ANY, 4), 2);
        due("whole", m.answers(0, 1, 3, 4), 1);
        due("none", m.answers(0, 1, 3, 3), 0);
        due("two columns", m.answers(1, 0, ANY, 0), 1);
        refused("relation", INDEX, () -> m.answers(2, -2, 0, 0));
        refused("behind the columns", ARGUMENT, () -> m.answers(1, ANY, ANY, ANY));
        refused("-2", ARGUMENT, () -> m.answers(0, -2, ANY, ANY));
        refused("100", ARGUMENT, () -> m.answers(0, 1, 100, ANY));
    }

    private static void promise21() {
        place = "promise 21";
        DatalogMill m = paths();
        fact(m, 0, 1, 2);
        fact(m, 0, 2, 3);
        due("of facts alone", m.goals(0, 1, ANY, 0), 1);
        // path(1, ANY), edge(1, ANY), edge(2, ANY), edge(3, ANY): the ways of path(1, Y) are 2 and 3.
        due("path(1, ANY)", m.goals(1, 1, ANY, 0), 4);
        // path(ANY, 3), edge(ANY, 3), path(ANY, ANY), edge(ANY, ANY), edge(2, 3), edge(3, 3),
        // and of path(ANY, ANY): edge(2, ANY), edge(3, ANY).
        due("path(ANY, 3)", m.goals(1, ANY, 3, 0), 8);
        refused("relation", INDEX, () -> m.goals(3, -2, 0, 0));
        refused("behind the columns", ARGUMENT, () -> m.goals(2, ANY, ANY, 0));
        refused("100", ARGUMENT, () -> m.goals(2, 100, 0, 0));
        goalsWithPutIn();
        goalsOfValues();
        manyGoals();
    }

    private static void goalsWithPutIn() {
        DatalogMill m = plain(2, 2, 1, 1);
        rule(m, FOLLOWS, 1, X, X);
        not(m, 2, 5);
        atom(m, 3, X);
        m.add();
        rule(m, FOLLOWS, 1, 7, Y);
        m.reckon(Y, PLUS, 3, 4);
        atom(m, 0, Y, 9);
        m.add();
        due("another number, two numbers for one", m.goals(1, 1, 2, 0), 1);
        due("one number: not 2(5), 3(1)", m.goals(1, 1, 1, 0), 3);
        due("7, and what is made is 7: both rules", m.goals(1, 7, 7, 0), 4);
        due("7, and what is made is not 8", m.goals(1, 7, 8, 0), 1);
        due("7, ANY: 2(5), 3(7), 0(7, 9)", m.goals(1, 7, ANY, 0), 4);
        fact(m, 2, 5);
        due("what is ahead does not hold", m.goals(1, 1, 1, 0), 2);
        DatalogMill n = plain(1, 2, 1);
        rule(n, FOLLOWS, 2, X);
        atom(n, 0, Y);
        atom(n, 1, X, Y);
        n.add();
        fact(n, 0, 4);
        fact(n, 0, 5);
        due("2(8), 0(ANY), 1(8, 4), 1(8, 5)", n.goals(2, 8, 0, 0), 4);
    }

    private static void goalsOfValues() {
        DatalogMill m = valued();
        rule(m, FOLLOWS, 1, X, 5);
        atom(m, 2, X, 9);
        m.add();
        due("values are not looked at, and asked as ANY", m.goals(1, 3, 6, 0), 2);
        rule(m, FOLLOWS, 2, Y, V);
        atom(m, 0, Y, V, ANY);
        m.add();
        due("1(3, 6), 2(3, ANY), 0(3, ANY, ANY)", m.goals(1, 3, 6, 0), 3);
        due("the goal itself keeps its number", m.goals(2, 3, 9, 0), 2);
        rule(m, COUNTS, 3, X, 0);
        atom(m, 5, X);
        m.add();
        due("the last column of COUNTS is not looked at", m.goals(3, 1, 7, 0), 2);
        rule(m, SUMS, 3, Y, V);
        atom(m, 0, Y, ANY, V);
        m.add();
        due("nor that of SUMS: 5(1), 0(1, ANY, ANY)", m.goals(3, 1, 7, 0), 3);
    }

    private static void manyGoals() {
        DatalogMill m = plain(2, 3, 1);
        for (int i = 0; i < 23; i++) {
            fact(m, 0, i, i * 4);
        }
        rule(m, FOLLOWS, 2, 1);
        atom(m, 0, X, ANY);
        atom(m, 0, ANY, Y);
        atom(m, 1, X, Y, 0);
        m.add();
        // 2(ANY), 0(ANY, ANY), and 23 times 23 of relation 1.
        due("531 goals", m.goals(2, ANY, 0, 0), 500);
        m.takeBack(0, 22, 88, 0);
        due("2 and 22 times 22", m.goals(2, ANY, 0, 0), 486);
        rule(m, FOLLOWS, 1, X, Y, Z);
        atom(m, 2, X);
        m.reckon(Y, PLUS, X, 0);
        m.reckon(Z, PLUS, X, 0);
        m.add();
        due("and 2(0), and 2(2) to 2(21), of which but 2(1) asks", m.goals(2, 1, 0, 0), 500);
        m.takeBack(0, 21, 84, 0);
        due("1 and 1 and 21 times 21 and 20", m.goals(2, 1, 0, 0), 463);
    }

    private static void promise22And23() {
        place = "promises 22 and 23";
        DatalogMill m = paths();
        due("came", m.came(), 0);
        fact(m, 0, 1, 2);
        due("came", m.came(), 2);
        due("went", m.went(), 0);
        fact(m, 0, 2, 3);
        due("came", m.came(), 3);
        refused("fact", STATE, () -> m.fact(0, 2, 3, 0, 1, NONE));
        due("came after a throw", m.came(), 3);
        rule(m, FOLLOWS, 2, X);
        atom(m, 2, X);
        not(m, 2, X);
        due("add", m.add(), LAYERLESS);
        due("came after a refusal", m.came(), 3);
        m.relation(1, PLAIN);
        due("came after relation", m.came(), 3);
        rule(m, FOLLOWS, 2, 1);
        due("came after rule", m.came(), 3);
        m.takeBack(0, 1, 2, 0);
        due("went", m.went(), 3);
        due("came", m.came(), 0);
        m.pass(1);
        due("went after pass", m.went(), 0);
        m.drop(0);
        due("went", m.went(), 1);
        DatalogMill v = valued();
        fact(v, 1, 1, 9);
        fact(v, 1, 1, 7);
        due("came", v.came(), 1);
        due("went", v.went(), 1);
        fact(v, 1, 1, 8);
        due("came", v.came(), 0);
        due("went", v.went(), 0);
    }

    // ---- ways

    private static void promise24() {
        place = "promise 24";
        DatalogMill m = plain(2, 1, 2);
        fact(m, 0, 1, 5);
        fact(m, 0, 1, 6);
        fact(m, 0, 2, 5);
        fact(m, 1, 1);
        rule(m, FOLLOWS, 1, X);
        atom(m, 0, X, Y);
        m.add();
        due("a fact and two bindings", m.ways(1, 1, 0, 0), 3);
        due("one binding", m.ways(1, 2, 0, 0), 1);
        due("no row", m.ways(1, 3, 0, 0), 0);
        rule(m, FOLLOWS, 1, X);
        atom(m, 0, X, ANY);
        m.add();
        due("and one with ANY", m.ways(1, 1, 0, 0), 4);
        rule(m, COUNTS, 2, X, 0);
        atom(m, 0, X, Y);
        m.add();
        due("a group", m.ways(2, 1, 2, 0), 1);
        rule(m, SUMS, 2, X, 2);
        atom(m, 0, X, 5);
        m.add();
        due("two groups", m.ways(2, 1, 2, 0), 2);
        due("one of them", m.ways(2, 2, 1, 0), 1);
        due("the other", m.ways(2, 2, 2, 0), 1);
        refused("relation", INDEX, () -> m.ways(3, 100, 0, 0));
        refused("row", ARGUMENT, () -> m.ways(2, 1, 2, 3));
        DatalogMill v = valued();
        fact(v, 1, 4, 9);
        fact(v, 1, 4, 7);
        due("a fact that is no row", v.ways(1, 4, 9, 0), 0);
        due("a fact that is", v.ways(1, 4, 7, 0), 1);
    }

    private static void promise25And26() {
        place = "promises 25 and 26";
        DatalogMill m = paths();
        m.fact(0, 1, 2, 0, 10, NONE);
        m.fact(0, 2, 3, 0, 20, NONE);
        m.fact(0, 1, 3, 0, 90, NONE);
        due("a fact", m.height(0, 1, 2, 0), 0);
        due("a fact", m.price(0, 1, 2, 0), 10);
        due("path(1, 2)", m.height(1, 1, 2, 0), 1);
        due("path(1, 2)", m.price(1, 1, 2, 0), 11);
        due("path(1, 3) by its edge", m.height(1, 1, 3, 0), 1);
        due("path(1, 3) by two edges", m.price(1, 1, 3, 0), 32);
        due("no row", m.height(1, 3, 1, 0), NONE);
        due("no row", m.price(1, 3, 1, 0), NONE);
        m.takeBack(0, 1, 3, 0);
        due("path(1, 3) by two edges", m.height(1, 1, 3, 0), 2);
        rule(m, FOLLOWS, 2, 5);
        m.reckon(X, PLUS, 1, 1);
        not(m, 0, 9, 9);
        m.add();
        due("no atoms", m.height(2, 5, 0, 0), 1);
        due("no atoms", m.price(2, 5, 0, 0), 1);
        rule(m, FOLLOWS, 2, 6);
        atom(m, 0, ANY, ANY);
        atom(m, 1, 1, ANY);
        m.add();
        due("the least of those that fit", m.height(2, 6, 0, 0), 2);
        due("the least of those that fit", m.price(2, 6, 0, 0), 1 + 10 + 11);
        m.fact(2, 6, 0, 0, 99, NONE);
        due("a fact is lower", m.height(2, 6, 0, 0), 0);
        due("but dearer", m.price(2, 6, 0, 0), 22);
        refused("relation", INDEX, () -> m.height(3, 100, 0, 0));
        refused("row", ARGUMENT, () -> m.height(2, 1, 2, 0));
        refused("relation", INDEX, () -> m.price(-1, 100, 0, 0));
        refused("row", ARGUMENT, () -> m.price(2, -1, 0, 0));
        costsOfGroups();
        costsInCircles();
        dearest();
    }

    private static void costsOfGroups() {
        DatalogMill m = plain(2, 2, 2);
        m.fact(0, 1, 5, 0, 10, NONE);
        m.fact(0, 1, 6, 0, 20, NONE);
        rule(m, FOLLOWS, 0, 1, 7);
        atom(m, 0, 1, 5);
        m.add();
        rule(m, COUNTS, 1, X, 0);
        atom(m, 0, X, Y);
        m.add();
        due("of all of a group", m.height(1, 1, 3, 0), 2);
        due("of all of a group", m.price(1, 1, 3, 0), 1 + 10 + 20 + 11);
        rule(m, COUNTS, 2, X, 0);
        m.reckon(X, PLUS, 1, 1);
        not(m, 0, 9, 9);
        m.add();
        due("no atoms", m.height(2, 2, 1, 0), 1);
        due("no atoms", m.price(2, 2, 1, 0), 1);
    }

    private static void costsInCircles() {
        DatalogMill m = valued();
        fact(m, 2, 4, 7);
        rule(m, FOLLOWS, 2, X, W);
        atom(m, 2, X, V);
        m.reckon(W, PLUS, V, 3);
        m.add();
        dueRows(m, 2, 49900);
        due("99 follows from itself alone", m.height(2, 4, 99, 0), NONE);
        due("99 follows from itself alone", m.price(2, 4, 99, 0), NONE);
        rule(m, SUMS, 3, X, V);
        atom(m, 2, X, V);
        m.add();
        due("of what has none", m.height(3, 4, 99, 0), NONE);
        due("of what has none", m.price(3, 4, 99, 0), NONE);
        rule(m, FOLLOWS, 5, X);
        atom(m, 2, X, ANY);
        m.add();
        due("of what has none", m.height(5, 4, 0, 0), NONE);
        fact(m, 2, 4, 99);
        due("now from a fact", m.height(2, 4, 99, 0), 0);
        due("now from a fact", m.price(5, 4, 0, 0), 2);
    }

    private static void dearest() {
        DatalogMill m = plain(1, 2, 1, 1);
        for (int i = 0; i < 20; i++) {
            m.fact(0, i, 0, 0, 99, NONE);
        }
        rule(m, COUNTS, 2, 0);
        atom(m, 0, X);
        atom(m, 0, Y);
        m.add();
        dueRows(m, 2, 990000);
        due("400 bindings of 198 each", m.price(2, 99, 0, 0), 9999);
        rule(m, FOLLOWS, 3, 1);
        atom(m, 2, X);
        m.add();
        due("and 1 more", m.price(3, 1, 0, 0), 9999);
        due("but a height", m.height(3, 1, 0, 0), 2);
    }

    private static void promise27() {
        place = "promise 27";
        DatalogMill m = paths();
        fact(m, 0, 1, 2);
        fact(m, 0, 2, 3);
        due("both edges", m.needs(1, 1, 3, 0), 2);
        due("one edge", m.needs(1, 1, 2, 0), 1);
        due("a fact needs itself", m.needs(0, 1, 2, 0), 1);
        fact(m, 0, 1, 3);
        due("none alone", m.needs(1, 1, 3, 0), 0);
        due("no row", m.needs(1, 3, 3, 0), 0);
        refused("relation", INDEX, () -> m.needs(3, 100, 0, 0));
        refused("row", ARGUMENT, () -> m.needs(2, 1, 2, 0));
        due("facts", m.facts(), 3);
        DatalogMill v = valued();
        fact(v, 1, 4, 7);
        fact(v, 1, 4, 9);
        due("the least one alone", v.needs(1, 4, 7, 0), 1);
        DatalogMill full = brink();
        due("a fact whose loss is too much does not count", full.needs(1, 7, 0, 0), 0);
        due("another one does", full.needs(0, 1, 0, 0), 1);
        rule(full, FOLLOWS, 1, 8);
        atom(full, 0, 3);
        full.add();
        due("1(8) needs 0(3)", full.needs(1, 8, 0, 0), 1);
        due("1(7) needs itself", full.needs(1, 7, 0, 0), 1);
    }

    private static void promise28() {
        place = "promise 28";
        DatalogMill m = plain(2, 2, 1);
        fact(m, 0, 1, 2);
        fact(m, 0, 2, 3);
        rule(m, FOLLOWS, 1, X, Z);
        atom(m, 0, X, Y);
        atom(m, 0, Y, Z);
        m.compare(LESS, Z, 3);
        m.reckon(V, PLUS, Z, 1);
        m.add();
        due("all but the comparison", m.reaches(0, 1, 3, 0), 2);
        due("the first atom", m.reaches(0, 1, 2, 0), 1);
        due("nothing", m.reaches(0, 3, 3, 0), 0);
        fact(m, 0, 2, 1);
        due("all", m.reaches(0, 1, 1, 0), 4);
        rule(m, FOLLOWS, 1, 5, X);
        atom(m, 2, X);
        m.add();
        due("a number of the head", m.reaches(1, 4, 1, 0), NONE);
        due("no row", m.reaches(1, 5, 1, 0), 0);
        rule(m, FOLLOWS, 1, X, X);
        atom(m, 2, X);
        m.add();
        due("two numbers for one", m.reaches(2, 4, 5, 0), NONE);
        due("one number", m.reaches(2, 4, 4, 0), 0);
        rule(m, COUNTS, 1, X, 0);
        atom(m, 2, X);
        m.add();
        refused("not FOLLOWS", ARGUMENT, () -> m.reaches(3, 1, 1, 0));
        refused("no such rule", INDEX, () -> m.reaches(4, 100, 0, 0));
        refused("row", ARGUMENT, () -> m.reaches(0, 1, 1, 1));
        refused("row", ARGUMENT, () -> m.reaches(0, 1, 100, 0));
        m.drop(0);
        refused("taken away", INDEX, () -> m.reaches(0, 1, 1, 0));
        rule(m, FOLLOWS, 1, X, V);
        atom(m, 0, X, ANY);
        m.reckon(V, TIMES, X, 3);
        m.add();
        due("what is made is the row's", m.reaches(4, 2, 6, 0), 2);
        due("what is made is not", m.reaches(4, 2, 5, 0), 1);
        due("NONE ahead of what holds", m.reaches(4, 3, 9, 0), 0);
    }

    // ---- what must never follow

    private static void promise29() {
        place = "promise 29";
        DatalogMill m = plain(2, 1, 2);
        fact(m, 0, 1, 5);
        fact(m, 0, 1, 6);
        fact(m, 0, 2, 5);
        fact(m, 0, 3, 3);
        refused("none yet", INDEX, () -> m.bindings(0));
        rule(m, FOLLOWS, 1, X);
        atom(m, 0, X, Y);
        m.add();
        due("each row", m.bindings(0), 4);
        rule(m, FOLLOWS, 1, X);
        atom(m, 0, X, ANY);
        m.add();
        due("each first column", m.bindings(1), 3);
        rule(m, FOLLOWS, 1, 9);
        atom(m, 0, ANY, ANY);
        m.add();
        due("without variables", m.bindings(2), 1);
        rule(m, COUNTS, 2, X, 0);
        atom(m, 0, X, Y);
        atom(m, 0, Z, Y);
        m.compare(UNLIKE, X, Z);
        m.add();
        due("COUNTS", m.bindings(3), 2);
        rule(m, NEVER, NONE);
        atom(m, 0, X, X);
        m.add();
        due("one variable twice", m.bindings(4), 1);
        rule(m, NEVER, NONE);
        atom(m, 0, ANY, Y);
        atom(m, 0, Y, ANY);
        m.add();
        due("ANY in both", m.bindings(5), 1);
        rule(m, NEVER, NONE);
        atom(m, 0, X, Y);
        not(m, 0, Y, ANY);
        not(m, 0, ANY, X);
        m.add();
        due("negated", m.bindings(6), 3);
        m.takeBack(0, 3, 3, 0);
        due("now", m.bindings(4), 0);
        refused("bindings(7)", INDEX, () -> m.bindings(7));
        m.drop(6);
        refused("taken away", INDEX, () -> m.bindings(6));
    }

    private static void promise30And31() {
        place = "promises 30 and 31";
        DatalogMill m = plain(1, 1);
        fact(m, 1, 2);
        fact(m, 0, 3);
        fact(m, 1, 1);
        fact(m, 0, 4);
        due("nothing is broken", m.repair(), 0);
        refused("repairAt(0)", INDEX, () -> m.repairAt(0));
        rule(m, NEVER, NONE);
        atom(m, 0, 4);
        atom(m, 1, 2);
        m.add();
        // In order: 0(3), 0(4), 1(1), 1(2).
        due("repair", m.repair(), 1);
        due("the first of two", m.repairAt(0), 1);
        refused("repairAt(1)", INDEX, () -> m.repairAt(1));
        refused("repairAt(-1)", INDEX, () -> m.repairAt(-1));
        rule(m, NEVER, NONE);
        atom(m, 1, X);
        atom(m, 1, Y);
        m.compare(LESS, X, Y);
        m.add();
        due("repair", m.repair(), 1);
        due("both hang on 1(2)", m.repairAt(0), 3);
        rule(m, NEVER, NONE);
        atom(m, 0, 3);
        m.add();
        due("repair", m.repair(), 2);
        due("first", m.repairAt(0), 0);
        due("second", m.repairAt(1), 3);
        refused("repairAt(2)", INDEX, () -> m.repairAt(2));
        due("facts", m.facts(), 4);
        rule(m, NEVER, NONE);
        atom(m, 1, 1);
        m.add();
        due("three would be needed", m.repair(), NONE);
        refused("repairAt(0)", INDEX, () -> m.repairAt(0));
        m.drop(2);
        due("repair", m.repair(), 2);
        due("first", m.repairAt(0), 1);
        due("second", m.repairAt(1), 2);
        rule(m, NEVER, NONE);
        m.compare(SAME, 1, 1);
        int always = m.add();
        due("nothing helps", m.repair(), NONE);
        m.drop(always);
        repairOnTheBrink();
    }

    private static void repairOnTheBrink() {
        DatalogMill m = brink();
        rule(m, NEVER, NONE);
        atom(m, 1, ANY);
        m.add();
        // Without 1(7) there would be 36 rows: so one of relation 0 goes too.
        due("repair", m.repair(), 2);
        due("first", m.repairAt(0), 0);
        due("second", m.repairAt(1), 6);
        m.takeBack(0, 5, 0, 0);
        due("repair", m.repair(), 1);
        due("first", m.repairAt(0), 5);
        DatalogMill o = plain(1, 1, 2);
        fact(o, 0, 7);
        for (int i = 0; i < 6; i++) {
            fact(o, 1, i);
        }
        rule(o, FOLLOWS, 2, X, Y);
        atom(o, 1, X);
        atom(o, 1, Y);
        not(o, 0, ANY);
        o.add();
        rule(o, NEVER, NONE);
        atom(o, 0, ANY);
        o.add();
        due("repair, the guard ahead", o.repair(), 2);
        due("first", o.repairAt(0), 0);
        due("second", o.repairAt(1), 1);
        DatalogMill n = plain(1, 1);
        fact(n, 0, 1);
        rule(n, NEVER, NONE);
        not(n, 1, 1);
        n.add();
        due("what is missing cannot be given up", n.repair(), NONE);
        rule(n, FOLLOWS, 1, 1);
        n.compare(SAME, 1, 1);
        not(n, 0, 1);
        n.add();
        due("without 0(1) it follows", n.repair(), 1);
    }

    // ---- the terms

    private static void rowsByLayers() {
        place = "rows";
        DatalogMill m = valued();
        int[][] edges = {{1, 2, 4}, {2, 3, 5}, {1, 3, 12}, {3, 1, 1}};
        for (int[] e : edges) {
            fact(m, 0, e);
        }
        fact(m, 1, 1, 0);
        rule(m, FOLLOWS, 1, Y, W);
        atom(m, 1, X, V);
        atom(m, 0, X, Y, Z);
        m.reckon(W, PLUS, V, Z);
        m.add();
        dueRows(m, 1, 10000, 20400, 30900);
        rule(m, FOLLOWS, 2, Y, W);
        atom(m, 1, X, V);
        atom(m, 0, X, Y, Z);
        m.reckon(W, PLUS, V, Z);
        m.add();
        dueRows(m, 2, 11000, 20400, 31200);
        rule(m, FOLLOWS, 4, V);
        atom(m, 2, ANY, V);
        m.add();
        dueRows(m, 4, 40000);
        rule(m, FOLLOWS, 5, X);
        atom(m, 1, X, ANY);
        not(m, 2, X, 10);
        m.add();
        dueRows(m, 5, 20000, 30000);
    }

    private static void groups() {
        place = "groups";
        DatalogMill m = plain(2, 1, 2, 1, 3);
        rule(m, COUNTS, 1, 0);
        atom(m, 0, X, Y);
        m.add();
        rule(m, SUMS, 2, X, Y);
        atom(m, 0, X, Y);
        m.add();
        rule(m, SUMS, 3, 30);
        atom(m, 0, X, ANY);
        m.add();
        rule(m, SUMS, 4, X, X, X);
        atom(m, 0, X, Y);
        m.add();
        due("no binding, no group", m.count(1), 0);
        fact(m, 0, 1, 40);
        dueRows(m, 1, 10000);
        fact(m, 0, 1, 50);
        fact(m, 0, 2, 98);
        fact(m, 0, 3, 0);
        dueRows(m, 1, 40000);
        dueRows(m, 2, 19000, 29800, 30000);
        dueRows(m, 3, 900000);
        dueRows(m, 4, 10102, 20202, 30303);
        fact(m, 0, 2, 2);
        fact(m, 0, 4, 1);
        dueRows(m, 2, 19000, 29900, 30000, 40100);
        dueRows(m, 3, 990000);
        DatalogMill v = valued();
        fact(v, 3, 1, 7);
        fact(v, 3, 1, 8);
        fact(v, 1, 1, 3);
        rule(v, COUNTS, 1, X, 0);
        atom(v, 3, X, Y);
        v.add();
        dueRows(v, 1, 10200);
        rule(v, SUMS, 1, X, 1);
        atom(v, 3, X, 8);
        v.add();
        dueRows(v, 1, 10100);
    }

    private static void reckonings() {
        place = "reckonings";
        int[][] dues = {
            {PLUS, 60, 39, 99}, {PLUS, 60, 40, 99}, {PLUS, 0, 0, 0}, {MINUS, 5, 3, 2}, {MINUS, 3, 5, 0},
            {TIMES, 9, 11, 99}, {TIMES, 10, 10, 99}, {TIMES, 99, 0, 0}, {LESSER, 3, 5, 3}, {LESSER, 5, 3, 3},
            {GREATER, 3, 5, 5}, {GREATER, 5, 3, 5}, {REST, 17, 5, 2}, {REST, 17, 0, 0}, {REST, 4, 9, 4}};
        for (int[] d : dues) {
            DatalogMill m = plain(1);
            rule(m, FOLLOWS, 0, X);
            m.reckon(X, d[0], d[1], d[2]);
            due("add", m.add(), 0);
            dueRows(m, 0, d[3] * 10000);
        }
    }
}
