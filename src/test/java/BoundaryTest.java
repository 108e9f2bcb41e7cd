/**
 * A test of its own for each sentence of the document's promises: what is too small, too large, empty, full, or refused,
 * and what just is not. The sentences of the document's terms are TermsTest's.
 */
public final class BoundaryTest extends Sentences {
    private static final String NO_RELATION = "Throws `IndexOutOfBoundsException` if there is no such relation";
    private static final String NO_ROW = "Throws `IllegalArgumentException` if it cannot have such a row";
    private static final String RELATION = "- `relation`: a relation";
    private static final String ROW = "- `a`: a row, likewise b and c";

    /** A call of the face that is told a row. */
    private interface OfRow {
        void make(DatalogMill m, int relation, int a, int b, int c);
    }

    public static void main(String[] arguments) {
        promise1();
        promise2();
        promise3();
        promise3Refused();
        promise4();
        promise5();
        promises6And7();
        promise8();
        promise9();
        promise10();
        promise11();
        promise12();
        promise12Refused();
        promise13();
        promises14And15();
        promises16And17();
        promises18And19();
        promise20();
        promise21();
        promises22And23();
        promise24();
        promises25And26();
        promise27();
        promise28();
        promise29();
        promises30And31();
        endOfSentences();
    }

    // ---- what several promises say alike

    /** Six relations, of 1, 2, 3, 1, 2 and 3 columns, all PLAIN. */
    private static DatalogMill six() {
        return plain(1, 2, 3, 1, 2, 3);
    }

    private static void dueRelations(OfRow call) {
        for (int relation = 0; relation < 6; relation++) {
            int r = relation;
            refused("relation " + r + " of 6", 0, () -> call.make(six(), r, 0, 0, 0));
        }
    }

    private static void dueNoRelations(OfRow call) {
        refused("relation -1", INDEX, () -> call.make(six(), -1, 0, 0, 0));
        refused("relation 6 of 6", INDEX, () -> call.make(six(), 6, 0, 0, 0));
        refused("relation 0 of none", INDEX, () -> call.make(new DatalogMill(), 0, 0, 0, 0));
        refused("relation 1 of one", INDEX, () -> call.make(plain(1), 1, 0, 0, 0));
        refused("the least int", INDEX, () -> call.make(six(), MIN, 0, 0, 0));
        refused("the greatest int", INDEX, () -> call.make(six(), MAX, 0, 0, 0));
    }

    /** The lowest and the highest number in each column, and 0 behind the columns. */
    private static void dueRowsTaken(int lowest, int highest, OfRow call) {
        for (int columns = 1; columns <= 3; columns++) {
            for (int number : new int[] {lowest, 0, highest}) {
                int r = columns - 1;
                int b = columns > 1 ? number : 0;
                int c = columns > 2 ? number : 0;
                refused(columns + " columns, all " + number, 0, () -> call.make(six(), r, number, b, c));
                refused(columns + " columns, a " + number, 0, () -> call.make(six(), r, number, 0, 0));
                refused(columns + " columns, b or 0 " + b, 0, () -> call.make(six(), r, 0, b, 0));
                refused(columns + " columns, c or 0 " + c, 0, () -> call.make(six(), r, 0, 0, c));
            }
        }
    }

    /** What is next to those, in each column, and other than 0 behind the columns. */
    private static void dueRowsRefused(int tooLow, int tooHigh, OfRow call) {
        for (int number : new int[] {tooLow, tooHigh, MIN, MAX}) {
            for (int columns = 1; columns <= 3; columns++) {
                int r = columns - 1;
                refused(columns + " columns, a " + number, ARGUMENT, () -> call.make(six(), r, number, 0, 0));
                refused(columns + " columns, b " + number, ARGUMENT, () -> call.make(six(), r, 0, number, 0));
                refused(columns + " columns, c " + number, ARGUMENT, () -> call.make(six(), r, 0, 0, number));
            }
        }
        for (int number : new int[] {-1, 1, 99, 100}) {
            refused("behind 1 column, b " + number, ARGUMENT, () -> call.make(six(), 0, 0, number, 0));
            refused("behind 1 column, c " + number, ARGUMENT, () -> call.make(six(), 0, 0, 0, number));
            refused("behind 2 columns, c " + number, ARGUMENT, () -> call.make(six(), 1, 0, 0, number));
        }
    }

    // ---- relations and facts

    private static void promise1() {
        section("Promise 1: A new object");
        says("A database without relations", () -> {
            refused("count(0)", INDEX, () -> new DatalogMill().count(0));
            refused("layer(0)", INDEX, () -> new DatalogMill().layer(0));
            due("the first one's number", new DatalogMill().relation(1, PLAIN), 0);
        });
        says("at the time 0", () -> {
            due("now", new DatalogMill().now(), 0);
            refused("an end at 0", ARGUMENT, () -> plain(1).fact(0, 1, 0, 0, 1, 0));
            refused("an end at 1", 0, () -> plain(1).fact(0, 1, 0, 0, 1, 1));
        });
        says("the draft is empty", () -> {
            refused("add", STATE, () -> new DatalogMill().add());
            refused("atom", STATE, () -> plain(1).atom(0, false, X, 0, 0));
            refused("compare", STATE, () -> new DatalogMill().compare(SAME, 1, 1));
            refused("reckon", STATE, () -> new DatalogMill().reckon(X, PLUS, 1, 1));
        });
        says("A database", () -> {
            DatalogMill m = new DatalogMill();
            due("facts", m.facts(), 0);
            due("rules", m.rules(), 0);
            due("came", m.came(), 0);
            due("went", m.went(), 0);
            due("repair", m.repair(), 0);
            refused("repairAt(0)", INDEX, () -> m.repairAt(0));
            refused("bindings(0)", INDEX, () -> m.bindings(0));
            refused("drop(0)", INDEX, () -> m.drop(0));
            DatalogMill other = plain(1);
            fact(other, 0, 7);
            never(other);
            refused("the first one has no relation by what was told to another one", INDEX, () -> m.count(0));
            refused("and no draft", STATE, () -> m.compare(SAME, 1, 1));
        });
    }

    private static void promise2() {
        section("Promise 2: relation");
        says("Adds a relation", () -> {
            DatalogMill m = new DatalogMill();
            m.relation(1, PLAIN);
            due("count", m.count(0), 0);
            due("layer", m.layer(0), 0);
            refused("count(1)", INDEX, () -> m.count(1));
            m.relation(2, PLAIN);
            due("count", m.count(1), 0);
        });
        says("- `columns`: 1 to 3", () -> {
            for (int columns = 1; columns <= 3; columns++) {
                DatalogMill m = new DatalogMill();
                int c = columns;
                due("relation(" + c + ", PLAIN)", m.relation(c, PLAIN), 0);
                refused("b of " + c, c > 1 ? 0 : ARGUMENT, () -> m.holds(0, 1, 1, 0));
                refused("c of " + c, c > 2 ? 0 : ARGUMENT, () -> m.holds(0, 1, 1, 1));
            }
        });
        says("- `kind`: PLAIN, LEAST or GREATEST", () -> {
            for (int kind = PLAIN; kind <= GREATEST; kind++) {
                DatalogMill m = new DatalogMill();
                due("relation(2, " + kind + ")", m.relation(2, kind), 0);
                fact(m, 0, 1, 5);
                fact(m, 0, 1, 6);
                due("row 1, 5", m.holds(0, 1, 5, 0), kind != GREATEST);
                due("row 1, 6", m.holds(0, 1, 6, 0), kind != LEAST);
            }
        });
        says("Returns its number", () -> {
            DatalogMill m = new DatalogMill();
            for (int i = 0; i < 6; i++) {
                due("relation", m.relation(3 - i % 3, 2 - i % 3), i);
            }
        });
        says("Throws `IllegalArgumentException` if columns or kind is out of range", () -> {
            for (int columns : new int[] {0, 4, -1, MIN, MAX}) {
                refused("columns " + columns, ARGUMENT, () -> new DatalogMill().relation(columns, PLAIN));
            }
            for (int kind : new int[] {-1, 3, MIN, MAX}) {
                refused("kind " + kind, ARGUMENT, () -> new DatalogMill().relation(1, kind));
            }
        });
        says("Throws `IllegalStateException` if there are 6", () -> {
            DatalogMill m = plain(1, 1, 1, 1, 1);
            refused("a sixth", 0, () -> m.relation(1, PLAIN));
            refused("a seventh", STATE, () -> m.relation(1, PLAIN));
            refused("count(6)", INDEX, () -> m.count(6));
            due("count(5)", m.count(5), 0);
        });
    }

    private static void promise3() {
        OfRow fact = (m, r, a, b, c) -> m.fact(r, a, b, c, 1, NONE);
        section("Promise 3: fact");
        says("Tells a fact", () -> {
            DatalogMill m = plain(2);
            due("ahead", m.holds(0, 3, 4, 0), false);
            m.fact(0, 3, 4, 0, 1, NONE);
            due("behind", m.holds(0, 3, 4, 0), true);
            due("the other way round", m.holds(0, 4, 3, 0), false);
        });
        says(RELATION, () -> dueRelations(fact));
        says(ROW, () -> dueRowsTaken(0, 99, fact));
        says("- `price`: 1 to 99", () -> {
            for (int price : new int[] {1, 2, 98, 99}) {
                DatalogMill m = plain(1);
                m.fact(0, 5, 0, 0, price, NONE);
                due("its price", m.price(0, 5, 0, 0), price);
            }
        });
        says("- `end`: a time later than now; NONE for none", () -> {
            DatalogMill m = plain(1);
            m.pass(7);
            refused("7 at the time 7", ARGUMENT, () -> m.fact(0, 1, 0, 0, 1, 7));
            refused("8 at the time 7", 0, () -> m.fact(0, 1, 0, 0, 1, 8));
            refused("the greatest int", 0, () -> m.fact(0, 2, 0, 0, 1, MAX));
            refused("NONE", 0, () -> m.fact(0, 3, 0, 0, 1, NONE));
            due("gone by pass(1)", m.pass(1), 1);
            for (int i = 0; i < 20; i++) {
                due("gone by pass(100)", m.pass(100), 0);
            }
            dueRows(m, 0, 20000, 30000);
        });
        says("Returns how many facts there are", () -> {
            DatalogMill m = plain(1, 1);
            due("the first", m.fact(0, 1, 0, 0, 1, NONE), 1);
            due("the second", m.fact(1, 1, 0, 0, 1, NONE), 2);
            m.takeBack(0, 1, 0, 0);
            due("after one was taken back", m.fact(0, 2, 0, 0, 1, NONE), 2);
            DatalogMill v = valued();
            fact(v, 1, 1, 5);
            due("one that is no row", v.fact(1, 1, 6, 0, 1, NONE), 2);
        });
    }

    private static void promise3Refused() {
        OfRow fact = (m, r, a, b, c) -> m.fact(r, a, b, c, 1, NONE);
        says(NO_RELATION, () -> dueNoRelations(fact));
        says("if it cannot have such a row", () -> dueRowsRefused(-1, 100, fact));
        says("or price or end is out of range", () -> {
            for (int price : new int[] {0, 100, -1, MIN, MAX}) {
                refused("price " + price, ARGUMENT, () -> plain(1).fact(0, 1, 0, 0, price, NONE));
            }
            for (int end : new int[] {0, -2, MIN}) {
                refused("end " + end, ARGUMENT, () -> plain(1).fact(0, 1, 0, 0, 1, end));
            }
        });
        says("if there is this fact", () -> {
            DatalogMill m = plain(1, 1);
            m.fact(0, 1, 0, 0, 5, 3);
            refused("the same", STATE, () -> m.fact(0, 1, 0, 0, 5, 3));
            refused("with another price and end", STATE, () -> m.fact(0, 1, 0, 0, 6, NONE));
            due("its price is the first one's", m.price(0, 1, 0, 0), 5);
            refused("of another relation", 0, () -> m.fact(1, 1, 0, 0, 5, 3));
            always(m, 0, 2);
            refused("a row that only follows", 0, () -> m.fact(0, 2, 0, 0, 5, 3));
            m.takeBack(0, 1, 0, 0);
            refused("taken back ahead", 0, () -> m.fact(0, 1, 0, 0, 5, 3));
            m.pass(3);
            refused("ended ahead", 0, () -> m.fact(0, 1, 0, 0, 5, 5));
        });
        says("there are 24", () -> {
            DatalogMill m = plain(1, 1);
            for (int i = 0; i < 23; i++) {
                m.fact(i % 2, i, 0, 0, 1, NONE);
            }
            due("the 24th", m.fact(0, 40, 0, 0, 1, 2), 24);
            refused("a 25th", STATE, () -> m.fact(0, 41, 0, 0, 1, NONE));
            due("facts", m.facts(), 24);
            due("not a row", m.holds(0, 41, 0, 0), false);
            m.takeBack(1, 1, 0, 0);
            due("the 24th again", m.fact(0, 41, 0, 0, 1, NONE), 24);
            refused("a 25th again", STATE, () -> m.fact(0, 42, 0, 0, 1, NONE));
            m.pass(2);
            due("once one has ended", m.fact(0, 42, 0, 0, 1, NONE), 24);
        });
        says("or what follows would be TOO_MUCH", () -> {
            DatalogMill m = pairs(5);
            due("25 pairs", m.count(1), 25);
            refused("a sixth, for 36 pairs", STATE, () -> m.fact(0, 5, 0, 0, 1, NONE));
            due("facts", m.facts(), 5);
            due("25 pairs", m.count(1), 25);
            m.takeBack(0, 0, 0, 0);
            refused("a fifth", 0, () -> m.fact(0, 5, 0, 0, 1, NONE));
        });
    }

    /** In relation 1 the pairs of the rows of 0. */
    private static DatalogMill pairs(int rows) {
        DatalogMill m = plain(1, 2);
        rule(m, FOLLOWS, 1, X, Y);
        atom(m, 0, X);
        atom(m, 0, Y);
        m.add();
        for (int i = 0; i < rows; i++) {
            fact(m, 0, i);
        }
        return m;
    }

    /** Rows 0 and 99 in all columns of six relations are facts. */
    private static DatalogMill lowAndHigh() {
        DatalogMill m = six();
        for (int r = 0; r < 6; r++) {
            for (int n = 0; n < 100; n += 99) {
                m.fact(r, n, r % 3 > 0 ? n : 0, r % 3 > 1 ? n : 0, 7, NONE);
            }
        }
        return m;
    }

    private static void promise4() {
        OfRow takeBack = (m, r, a, b, c) -> m.takeBack(r, a, b, c);
        section("Promise 4: takeBack");
        says("Takes a fact back", () -> {
            DatalogMill m = plain(1, 1);
            fact(m, 0, 4);
            fact(m, 1, 4);
            m.takeBack(0, 4, 0, 0);
            due("gone", m.holds(0, 4, 0, 0), false);
            due("of another relation", m.holds(1, 4, 0, 0), true);
            due("facts", m.facts(), 1);
            always(m, 1, 4);
            m.takeBack(1, 4, 0, 0);
            due("it follows yet", m.holds(1, 4, 0, 0), true);
        });
        says(RELATION, () -> {
            for (int r = 0; r < 6; r++) {
                due("relation " + r, lowAndHigh().takeBack(r, 0, 0, 0), 7);
            }
        });
        says(ROW, () -> {
            DatalogMill m = lowAndHigh();
            due("99", m.takeBack(0, 99, 0, 0), 7);
            due("99, 99", m.takeBack(1, 99, 99, 0), 7);
            due("99, 99, 99", m.takeBack(2, 99, 99, 99), 7);
            due("0", m.takeBack(3, 0, 0, 0), 7);
            due("facts", m.facts(), 8);
        });
        says("Returns its price", () -> {
            DatalogMill m = plain(1);
            m.fact(0, 1, 0, 0, 1, NONE);
            m.fact(0, 2, 0, 0, 99, 5);
            m.fact(0, 3, 0, 0, 50, NONE);
            due("99", m.takeBack(0, 2, 0, 0), 99);
            due("1", m.takeBack(0, 1, 0, 0), 1);
            due("50", m.takeBack(0, 3, 0, 0), 50);
        });
        says(NO_RELATION, () -> dueNoRelations(takeBack));
        says(NO_ROW, () -> dueRowsRefused(-1, 100, takeBack));
        says("if there is no such fact", () -> {
            DatalogMill m = plain(2, 2);
            refused("none at all", STATE, () -> m.takeBack(0, 1, 2, 0));
            m.fact(0, 1, 2, 0, 1, 1);
            refused("the other way round", STATE, () -> m.takeBack(0, 2, 1, 0));
            refused("of another relation", STATE, () -> m.takeBack(1, 1, 2, 0));
            m.pass(1);
            refused("ended", STATE, () -> m.takeBack(0, 1, 2, 0));
            fact(m, 0, 1, 2);
            m.takeBack(0, 1, 2, 0);
            refused("taken back", STATE, () -> m.takeBack(0, 1, 2, 0));
            always(m, 0, 1, 2);
            refused("a row that only follows", STATE, () -> m.takeBack(0, 1, 2, 0));
        });
        says("or what follows would be TOO_MUCH", () -> {
            DatalogMill m = brink();
            refused("the guard of 36 pairs", STATE, () -> m.takeBack(1, 7, 0, 0));
            due("facts", m.facts(), 7);
            due("it is there", m.holds(1, 7, 0, 0), true);
            m.takeBack(0, 5, 0, 0);
            refused("the guard of 25 pairs", 0, () -> m.takeBack(1, 7, 0, 0));
            due("25 pairs", m.count(2), 25);
        });
    }

    private static void promise5() {
        section("Promise 5: pass");
        says("Lets the time go on, step by step", () -> {
            DatalogMill m = plain(1);
            DatalogMill single = plain(1);
            for (int i = 1; i <= 9; i++) {
                m.fact(0, i, 0, 0, 1, i);
                single.fact(0, i, 0, 0, 1, i);
            }
            m.pass(4);
            due("now", m.now(), 4);
            for (int i = 0; i < 4; i++) {
                single.pass(1);
            }
            due("what is left of 4 steps at once", stateOf(m).replace("went 4", "went 1"), stateOf(single));
            dueRows(m, 0, 50000, 60000, 70000, 80000, 90000);
        });
        says("- `steps`: 1 to 100", () -> {
            DatalogMill m = new DatalogMill();
            m.pass(1);
            due("1", m.now(), 1);
            m.pass(99);
            due("99", m.now(), 100);
            m.pass(100);
            due("100", m.now(), 200);
        });
        says("Returns how many facts are gone by that", () -> {
            DatalogMill m = plain(1);
            for (int i = 0; i < 8; i++) {
                m.fact(0, i, 0, 0, 1, i < 5 ? 2 : i == 5 ? 3 : NONE);
            }
            due("none at 1", m.pass(1), 0);
            due("five at 2", m.pass(1), 5);
            due("one at 3", m.pass(100), 1);
            due("none behind", m.pass(100), 0);
            due("facts", m.facts(), 2);
        });
        says("Throws `IllegalArgumentException` if steps is out of range", () -> {
            for (int steps : new int[] {0, -1, 101, MIN, MAX}) {
                refused("pass(" + steps + ")", ARGUMENT, () -> new DatalogMill().pass(steps));
            }
        });
        says("Throws `IllegalStateException` if what follows at the end of these steps would be TOO_MUCH", () -> {
            DatalogMill m = brink();
            m.fact(1, 8, 0, 0, 1, 3);
            m.takeBack(1, 7, 0, 0);
            due("2 steps", m.pass(2), 0);
            refused("1 step more", STATE, () -> m.pass(1));
            refused("100 steps more", STATE, () -> m.pass(100));
            due("now", m.now(), 2);
            due("facts", m.facts(), 7);
        });
        says("at the end of these steps", () -> {
            DatalogMill m = plain(1, 1, 2);
            for (int i = 0; i < 6; i++) {
                m.fact(0, i, 0, 0, 1, i == 5 ? 4 : NONE);
            }
            m.fact(1, 7, 0, 0, 1, 2);
            rule(m, FOLLOWS, 2, X, Y);
            atom(m, 0, X);
            atom(m, 0, Y);
            not(m, 1, ANY);
            m.add();
            refused("to 2, where there are 36", STATE, () -> m.pass(2));
            refused("to 3, where there are 36", STATE, () -> m.pass(3));
            due("to 4, where there are 25", m.pass(4), 2);
            due("25 pairs", m.count(2), 25);
        });
    }

    private static void promises6And7() {
        section("Promise 6: now");
        says("Returns the time", () -> {
            DatalogMill m = plain(1);
            due("at first", m.now(), 0);
            fact(m, 0, 1);
            m.takeBack(0, 1, 0, 0);
            due("not by other changes", m.now(), 0);
            m.pass(3);
            refused("pass(0)", ARGUMENT, () -> m.pass(0));
            due("behind 3 steps", m.now(), 3);
            for (int i = 0; i < 100; i++) {
                m.pass(100);
            }
            due("behind 10003", m.now(), 10003);
            due("the same again", m.now(), 10003);
        });
        section("Promise 7: facts");
        says("Returns how many facts there are", () -> {
            DatalogMill m = plain(1, 1);
            due("none", m.facts(), 0);
            always(m, 0, 1);
            due("rows that only follow are none", m.facts(), 0);
            m.fact(0, 1, 0, 0, 1, 2);
            fact(m, 1, 1);
            due("two", m.facts(), 2);
            refused("one of them again", STATE, () -> fact(m, 1, 1));
            due("two yet", m.facts(), 2);
            m.pass(2);
            due("one", m.facts(), 1);
            m.takeBack(1, 1, 0, 0);
            due("none again", m.facts(), 0);
            DatalogMill v = valued();
            fact(v, 4, 1);
            fact(v, 4, 2);
            due("facts that are no rows are some", v.facts(), 2);
        });
    }

    // ---- rules

    private static void promise8() {
        OfRow head = (m, r, a, b, c) -> m.rule(FOLLOWS, r, a, b, c);
        section("Promise 8: rule");
        says("Begins the draft of a rule anew, with its head", () -> {
            DatalogMill m = plain(1, 2);
            m.rule(FOLLOWS, 0, 5, 0, 0);
            m.compare(SAME, 1, 2);
            m.compare(SAME, 1, 2);
            m.rule(FOLLOWS, 1, 6, 7, 0);
            due("literals are counted anew", m.compare(SAME, 1, 1), 1);
            due("add", m.add(), 0);
            due("the first draft's head", m.count(0), 0);
            dueRows(m, 1, 60700);
            for (int i = 0; i < 4; i++) {
                m.rule(FOLLOWS, 0, 5, 0, 0);
                due("an atom", m.atom(0, false, ANY, 0, 0), 1);
                due("an atom", m.atom(0, false, ANY, 0, 0), 2);
                due("the third atom", m.atom(0, false, ANY, 0, 0), 3);
            }
        });
        says("- `kind`: FOLLOWS, COUNTS, SUMS or NEVER", () -> {
            for (int kind = FOLLOWS; kind <= NEVER; kind++) {
                DatalogMill m = plain(1, 2);
                fact(m, 0, 3);
                fact(m, 0, 4);
                rule(m, kind, kind == NEVER ? NONE : 1, kind == NEVER ? 0 : 9, kind == SUMS ? X : 0);
                atom(m, 0, X);
                due("add", m.add(), 0);
                int[] rows = {90000, 90200, 90700};
                dueRows(m, 1, kind == NEVER ? new int[0] : new int[] {rows[kind]});
            }
        });
        says("- `relation`: the relation of the head; NONE for NEVER", () -> {
            dueRelations(head);
            dueRelations((m, r, a, b, c) -> m.rule(COUNTS, r, a, b, c));
            dueRelations((m, r, a, b, c) -> m.rule(SUMS, r, a, b, c));
            refused("NONE for NEVER", 0, () -> new DatalogMill().rule(NEVER, NONE, 0, 0, 0));
        });
        says("- `a`: the terms of the head, likewise b and c", () -> {
            dueRowsTaken(0, 99, head);
            dueRowsTaken(100, 107, head);
            dueRowsTaken(100, 107, (m, r, a, b, c) -> m.rule(COUNTS, r, a, b, c));
            dueRowsTaken(100, 107, (m, r, a, b, c) -> m.rule(SUMS, r, a, b, c));
        });
        says("those behind its columns, and all of NEVER, have to be 0", () -> {
            for (int term : new int[] {ANY, 1, 99, 100, 107}) {
                refused("behind 1 column, b " + term, ARGUMENT, () -> six().rule(SUMS, 0, 0, term, 0));
                refused("behind 1 column, c " + term, ARGUMENT, () -> six().rule(COUNTS, 0, 0, 0, term));
                refused("behind 2 columns, c " + term, ARGUMENT, () -> six().rule(FOLLOWS, 1, 0, 0, term));
                refused("NEVER, a " + term, ARGUMENT, () -> six().rule(NEVER, NONE, term, 0, 0));
                refused("NEVER, b " + term, ARGUMENT, () -> six().rule(NEVER, NONE, 0, term, 0));
                refused("NEVER, c " + term, ARGUMENT, () -> six().rule(NEVER, NONE, 0, 0, term));
            }
        });
        promise8Refused();
    }

    private static void promise8Refused() {
        says("if there is no such relation", () -> {
            for (int kind = FOLLOWS; kind <= SUMS; kind++) {
                int k = kind;
                dueNoRelations((m, r, a, b, c) -> m.rule(k, r, a, b, c));
            }
        });
        says("or it is not NONE with NEVER", () -> {
            for (int relation : new int[] {0, 5, 6, -2, MIN, MAX}) {
                refused("NEVER, " + relation, INDEX, () -> six().rule(NEVER, relation, 0, 0, 0));
            }
        });
        says("(with a kind that is out of range, if it is neither)", () -> {
            for (int kind : new int[] {-1, 4, MIN, MAX}) {
                refused("kind " + kind + ", relation 6", INDEX, () -> six().rule(kind, 6, 0, 0, 0));
                refused("kind " + kind + ", relation -2", INDEX, () -> six().rule(kind, -2, 0, 0, 0));
                refused("kind " + kind + ", relation 5", ARGUMENT, () -> six().rule(kind, 5, 0, 0, 0));
                refused("kind " + kind + ", NONE", ARGUMENT, () -> six().rule(kind, NONE, 0, 0, 0));
                refused("kind " + kind + ", 0 of none", INDEX, () -> new DatalogMill().rule(kind, 0, 0, 0, 0));
            }
        });
        says("Throws `IllegalArgumentException` if kind is out of range", () -> {
            for (int kind : new int[] {-1, 4, MIN, MAX}) {
                refused("kind " + kind, ARGUMENT, () -> six().rule(kind, 0, 0, 0, 0));
            }
        });
        says("or a term is none", () -> {
            dueRowsRefused(ANY, 108, (m, r, a, b, c) -> m.rule(FOLLOWS, r, a, b, c));
            dueRowsRefused(ANY, 108, (m, r, a, b, c) -> m.rule(COUNTS, r, a, b, c));
            dueRowsRefused(ANY, 108, (m, r, a, b, c) -> m.rule(SUMS, r, a, b, c));
        });
    }

    /** The world with the draft of a NEVER rule that has so many literals, the first ones atoms of relation 0. */
    private static DatalogMill drafted(DatalogMill m, int atoms, int others) {
        never(m);
        for (int i = 0; i < atoms; i++) {
            m.atom(0, false, ANY, 0, 0);
        }
        for (int i = 0; i < others; i++) {
            m.compare(SAME, 1, 1);
        }
        return m;
    }

    private static void promise9() {
        OfRow atom = (m, r, a, b, c) -> drafted(m, 0, 0).atom(r, false, a, b, c);
        OfRow negated = (m, r, a, b, c) -> drafted(m, 0, 0).atom(r, true, a, b, c);
        section("Promise 9: atom");
        says("Adds an atom to the draft", () -> {
            DatalogMill m = plain(1);
            never(m);
            atom(m, 0, 5);
            m.add();
            due("bindings", m.bindings(0), 0);
            fact(m, 0, 5);
            due("bindings", m.bindings(0), 1);
        });
        says(RELATION, () -> {
            dueRelations(atom);
            dueRelations(negated);
        });
        says("- `isNegated`: whether it is negated", () -> {
            DatalogMill m = plain(1);
            fact(m, 0, 5);
            never(m);
            m.atom(0, false, 5, 0, 0);
            m.add();
            never(m);
            m.atom(0, true, 5, 0, 0);
            m.add();
            due("not negated", m.bindings(0), 1);
            due("negated", m.bindings(1), 0);
        });
        says("- `a`: its terms, likewise b and c", () -> {
            dueRowsTaken(ANY, 99, atom);
            dueRowsTaken(ANY, 107, negated);
            dueRowsTaken(100, 107, atom);
        });
        says("those behind its columns have to be 0", () -> {
            for (int term : new int[] {ANY, 1, 99, 100, 107}) {
                refused("behind 1 column, b " + term, ARGUMENT, () -> atom.make(six(), 0, 0, term, 0));
                refused("behind 1 column, c " + term, ARGUMENT, () -> negated.make(six(), 0, 0, 0, term));
                refused("behind 2 columns, c " + term, ARGUMENT, () -> atom.make(six(), 1, 0, 0, term));
            }
        });
        says("Returns how many literals the draft has", () -> {
            due("the first", drafted(plain(1), 0, 0).atom(0, false, 1, 0, 0), 1);
            due("behind an atom", drafted(plain(1), 1, 0).atom(0, false, 1, 0, 0), 2);
            due("behind two comparisons", drafted(plain(1), 0, 2).atom(0, true, 1, 0, 0), 3);
            due("the fourth", drafted(plain(1), 2, 1).atom(0, false, 1, 0, 0), 4);
        });
        says(NO_RELATION, () -> {
            dueNoRelations(atom);
            dueNoRelations(negated);
        });
        says("Throws `IllegalArgumentException` if a term is none", () -> {
            dueRowsRefused(-2, 108, atom);
            dueRowsRefused(-2, 108, negated);
        });
        says("if no draft was begun", () -> {
            refused("none", STATE, () -> plain(1).atom(0, false, 1, 0, 0));
            refused("one", 0, () -> drafted(plain(1), 0, 0).atom(0, false, 1, 0, 0));
            DatalogMill m = drafted(plain(1), 0, 1);
            m.add();
            refused("it was added", STATE, () -> m.atom(0, false, 1, 0, 0));
        });
        says("or it has 4 literals", () -> {
            refused("3 literals", 0, () -> drafted(plain(1), 0, 3).atom(0, false, 1, 0, 0));
            refused("4 literals, no atom", STATE, () -> drafted(plain(1), 0, 4).atom(0, false, 1, 0, 0));
            refused("4 literals, 2 atoms", STATE, () -> drafted(plain(1), 2, 2).atom(0, true, 1, 0, 0));
        });
        says("or 3 atoms", () -> {
            refused("2 atoms", 0, () -> drafted(plain(1), 2, 0).atom(0, false, 1, 0, 0));
            refused("3 atoms", STATE, () -> drafted(plain(1), 3, 0).atom(0, false, 1, 0, 0));
            refused("3 atoms, and a negated one", STATE, () -> drafted(plain(1), 3, 0).atom(0, true, 1, 0, 0));
            DatalogMill m = drafted(plain(1), 0, 0);
            for (int i = 1; i <= 3; i++) {
                due("a negated one", m.atom(0, true, 1, 0, 0), i);
            }
            refused("3 negated ones", STATE, () -> m.atom(0, false, 1, 0, 0));
            due("the draft has 3 literals yet", m.compare(SAME, 1, 1), 4);
        });
    }

    private static void promise10() {
        section("Promise 10: compare");
        says("Adds a comparison to the draft", () -> {
            DatalogMill m = plain(1);
            fact(m, 0, 4);
            fact(m, 0, 6);
            never(m);
            atom(m, 0, X);
            m.compare(LESS, X, 5);
            m.add();
            due("bindings", m.bindings(0), 1);
        });
        says("- `comparison`: SAME, UNLIKE, LESS or AT_MOST", () -> {
            boolean[][] due = {{false, true, false}, {true, false, true}, {true, false, false}, {true, true, false}};
            for (int comparison = SAME; comparison <= AT_MOST; comparison++) {
                for (int right = 4; right <= 6; right++) {
                    DatalogMill m = new DatalogMill();
                    never(m);
                    due("compare", m.compare(comparison, 5, right), 1);
                    m.add();
                    due(comparison + " of 5 and " + right, m.bindings(0) == 1, due[comparison][6 - right]);
                }
            }
        });
        for (String side : new String[] {"left", "right"}) {
            boolean isLeft = side.equals("left");
            says("- `" + side + "`: a term, not ANY", () -> {
                for (int term : new int[] {0, 1, 99, 100, 107}) {
                    refused(side + " " + term, 0,
                            () -> drafted(plain(1), 0, 0).compare(LESS, isLeft ? term : 7, isLeft ? 7 : term));
                }
                refused(side + " ANY", ARGUMENT,
                        () -> drafted(plain(1), 0, 0).compare(LESS, isLeft ? ANY : 7, isLeft ? 7 : ANY));
            });
        }
        says("Returns how many literals the draft has", () -> {
            DatalogMill m = drafted(plain(1), 2, 0);
            due("the third", m.compare(SAME, 1, 1), 3);
            due("the fourth", m.compare(SAME, 1, 1), 4);
            due("the first", drafted(m, 0, 0).compare(SAME, 1, 1), 1);
        });
        says("Throws `IllegalArgumentException` if an argument is out of range", () -> {
            for (int comparison : new int[] {-1, 4, MIN, MAX}) {
                refused("comparison " + comparison, ARGUMENT,
                        () -> drafted(plain(1), 0, 0).compare(comparison, 1, 1));
            }
            for (int term : new int[] {-2, ANY, 108, MIN, MAX}) {
                refused("left " + term, ARGUMENT, () -> drafted(plain(1), 0, 0).compare(SAME, term, 1));
                refused("right " + term, ARGUMENT, () -> drafted(plain(1), 0, 0).compare(SAME, 1, term));
            }
        });
        says("if no draft was begun", () -> {
            refused("none", STATE, () -> plain(1).compare(SAME, 1, 1));
            DatalogMill m = drafted(plain(1), 0, 1);
            m.add();
            refused("it was added", STATE, () -> m.compare(SAME, 1, 1));
        });
        says("or it has 4 literals", () -> {
            refused("3 literals", 0, () -> drafted(plain(1), 3, 0).compare(SAME, 1, 1));
            refused("4 literals", STATE, () -> drafted(plain(1), 3, 1).compare(SAME, 1, 1));
            refused("4 comparisons", STATE, () -> drafted(plain(1), 0, 4).compare(SAME, 1, 1));
        });
    }

    private static void promise11() {
        section("Promise 11: reckon");
        says("Adds a reckoning to the draft", () -> {
            DatalogMill m = plain(1, 1);
            fact(m, 0, 4);
            rule(m, FOLLOWS, 1, Y);
            atom(m, 0, X);
            m.reckon(Y, PLUS, X, 3);
            m.add();
            dueRows(m, 1, 70000);
        });
        says("- `variable`: a variable", () -> {
            for (int v = X; v <= LAST; v++) {
                DatalogMill m = plain(1);
                rule(m, FOLLOWS, 0, v);
                due("reckon", m.reckon(v, PLUS, 40, 2), 1);
                due("add", m.add(), 0);
                dueRows(m, 0, 420000);
            }
        });
        says("- `reckoning`: PLUS to REST", () -> {
            int[] due = {10, 4, 21, 3, 7, 1};
            for (int reckoning = PLUS; reckoning <= REST; reckoning++) {
                DatalogMill m = plain(1);
                rule(m, FOLLOWS, 0, X);
                due("reckon", m.reckon(X, reckoning, 7, 3), 1);
                due("add", m.add(), 0);
                dueRows(m, 0, due[reckoning] * 10000);
            }
        });
        for (String side : new String[] {"left", "right"}) {
            boolean isLeft = side.equals("left");
            says("- `" + side + "`: a term, not ANY", () -> {
                for (int term : new int[] {0, 1, 99, 100, 107}) {
                    refused(side + " " + term, 0,
                            () -> drafted(plain(1), 0, 0).reckon(X, PLUS, isLeft ? term : 7, isLeft ? 7 : term));
                }
                refused(side + " ANY", ARGUMENT,
                        () -> drafted(plain(1), 0, 0).reckon(X, PLUS, isLeft ? ANY : 7, isLeft ? 7 : ANY));
            });
        }
        says("Returns how many literals the draft has", () -> {
            DatalogMill m = drafted(plain(1), 1, 1);
            due("the third", m.reckon(X, PLUS, 1, 1), 3);
            due("the fourth", m.reckon(Y, PLUS, 1, 1), 4);
            due("the first", drafted(m, 0, 0).reckon(X, PLUS, 1, 1), 1);
        });
        says("Throws `IllegalArgumentException` if an argument is out of range", () -> {
            for (int variable : new int[] {99, 108, 0, ANY, MIN, MAX}) {
                refused("variable " + variable, ARGUMENT,
                        () -> drafted(plain(1), 0, 0).reckon(variable, PLUS, 1, 1));
            }
            for (int reckoning : new int[] {-1, 6, MIN, MAX}) {
                refused("reckoning " + reckoning, ARGUMENT,
                        () -> drafted(plain(1), 0, 0).reckon(X, reckoning, 1, 1));
            }
            for (int term : new int[] {-2, ANY, 108, MIN, MAX}) {
                refused("left " + term, ARGUMENT, () -> drafted(plain(1), 0, 0).reckon(X, PLUS, term, 1));
                refused("right " + term, ARGUMENT, () -> drafted(plain(1), 0, 0).reckon(X, PLUS, 1, term));
            }
        });
        says("if no draft was begun", () -> {
            refused("none", STATE, () -> plain(1).reckon(X, PLUS, 1, 1));
            DatalogMill m = drafted(plain(1), 0, 1);
            m.add();
            refused("it was added", STATE, () -> m.reckon(X, PLUS, 1, 1));
        });
        says("or it has 4 literals", () -> {
            refused("3 literals", 0, () -> drafted(plain(1), 3, 0).reckon(X, PLUS, 1, 1));
            refused("4 literals", STATE, () -> drafted(plain(1), 3, 1).reckon(X, PLUS, 1, 1));
            refused("4 comparisons", STATE, () -> drafted(plain(1), 0, 4).reckon(X, PLUS, 1, 1));
        });
    }

    private static void promise12() {
        section("Promise 12: add");
        says("Adds the draft as a rule, if it is not refused", () -> {
            DatalogMill m = plain(1);
            due("add", always(m, 0, 5), 0);
            dueRows(m, 0, 50000);
            due("rules", m.rules(), 1);
            rule(m, FOLLOWS, 0, X);
            m.compare(SAME, 1, 1);
            due("refused", m.add(), UNSAFE);
            due("rules", m.rules(), 1);
            dueRows(m, 0, 50000);
        });
        says("there is no draft then", () -> {
            for (int refusal = 0; refusal >= TOO_MUCH; refusal--) {
                if (refusal != -1) {
                    DatalogMill m = toBeRefused(refusal);
                    due("add", m.add(), refusal);
                    refused("add again, behind " + refusal, STATE, m::add);
                    refused("atom", STATE, () -> m.atom(0, false, 1, 0, 0));
                    refused("compare", STATE, () -> m.compare(SAME, 1, 1));
                    refused("reckon", STATE, () -> m.reckon(X, PLUS, 1, 1));
                }
            }
        });
        says("unless this throws an exception", () -> {
            DatalogMill m = plain(1);
            rule(m, FOLLOWS, 0, 5);
            refused("no literals", STATE, m::add);
            due("the draft is there", m.compare(SAME, 1, 1), 1);
            due("add", m.add(), 0);
            dueRows(m, 0, 50000);
            for (int i = 1; i < 10; i++) {
                always(m, 0, 5 + i);
            }
            rule(m, FOLLOWS, 0, 30);
            m.compare(SAME, 1, 1);
            refused("10 rules", STATE, m::add);
            due("the draft is there", m.compare(SAME, 1, 1), 2);
            m.drop(3);
            due("add", m.add(), 10);
            due("its row", m.holds(0, 30, 0, 0), true);
        });
        says("Returns the number of the rule", () -> {
            DatalogMill m = plain(1);
            for (int i = 0; i < 10; i++) {
                due("add", always(m, 0, i), i);
            }
        });
        says("otherwise UNSAFE, LAYERLESS, SHRINKING or TOO_MUCH", () -> {
            for (int refusal = UNSAFE; refusal >= TOO_MUCH; refusal--) {
                DatalogMill m = toBeRefused(refusal);
                String ahead = stateOf(m);
                due("add", m.add(), refusal);
                due("what there is, behind " + refusal, stateOf(m), ahead);
            }
        });
        says("of several the first one of these", () -> {
            for (int first = UNSAFE; first >= TOO_MUCH; first--) {
                for (int second = first - 1; second >= TOO_MUCH; second--) {
                    due(first + " and " + second, toBeRefused(first, second).add(), first);
                }
            }
        });
    }

    /**
     * A draft that will be refused for just these reasons, or not at all. Relation 0 has 6 rows, 1 is LEAST with
     * three columns and the row 0, 0, 7, and 2 is PLAIN with two.
     */
    private static DatalogMill toBeRefused(int... reasons) {
        boolean isUnsafe = has(reasons, UNSAFE);
        boolean isLayerless = has(reasons, LAYERLESS);
        boolean isShrinking = has(reasons, SHRINKING);
        boolean isTooMuch = has(reasons, TOO_MUCH);
        DatalogMill m = new DatalogMill();
        m.relation(1, PLAIN);
        m.relation(3, LEAST);
        m.relation(2, PLAIN);
        for (int i = 0; i < 6; i++) {
            fact(m, 0, i);
        }
        fact(m, 1, 0, 0, 7);
        // The keys of the head are 36 pairs, or 6 rows that are alike.
        int second = isTooMuch ? Y : X;
        int last = isUnsafe ? Z : 9;
        if (isShrinking) {
            rule(m, FOLLOWS, 1, X, second, last);
            atom(m, 1, ANY, ANY, 7);
        } else {
            rule(m, FOLLOWS, 1, X, second, last);
            m.compare(SAME, 1, 1);
        }
        atom(m, 0, X);
        if (isTooMuch) {
            atom(m, 0, Y);
        }
        if (isLayerless && isShrinking && isTooMuch) {
            throw new IllegalStateException("there is no room for so many atoms");
        }
        if (isLayerless) {
            not(m, 1, 50, 50, 50);
        }
        return m;
    }

    private static boolean has(int[] reasons, int reason) {
        for (int r : reasons) {
            if (r == reason) {
                return true;
            }
        }
        return false;
    }

    private static void promise12Refused() {
        says("if no draft was begun", () -> {
            refused("none", STATE, () -> plain(1).add());
            DatalogMill m = plain(1);
            always(m, 0, 1);
            refused("it was added", STATE, m::add);
        });
        says("it has no literals", () -> {
            refused("FOLLOWS", STATE, () -> {
                DatalogMill m = plain(1);
                rule(m, FOLLOWS, 0, 1);
                m.add();
            });
            refused("NEVER", STATE, () -> drafted(plain(1), 0, 0).add());
            due("one literal", drafted(plain(1), 0, 1).add(), 0);
            due("four literals", drafted(plain(1), 3, 1).add(), 0);
        });
        says("or there are 10 rules", () -> {
            DatalogMill m = plain(1);
            for (int i = 0; i < 9; i++) {
                always(m, 0, i);
            }
            due("a tenth", drafted(m, 1, 0).add(), 9);
            refused("an eleventh", STATE, () -> drafted(m, 1, 0).add());
            due("rules", m.rules(), 10);
            rule(m, FOLLOWS, 0, X);
            m.compare(SAME, 1, 1);
            refused("an eleventh that would be UNSAFE", STATE, m::add);
        });
    }

    private static void promise13() {
        section("Promise 13: drop");
        says("Takes a rule away", () -> {
            DatalogMill m = plain(1);
            always(m, 0, 4);
            always(m, 0, 5);
            always(m, 0, 6);
            m.drop(1);
            dueRows(m, 0, 40000, 60000);
            due("rules", m.rules(), 2);
        });
        says("- `rule`: a rule", () -> {
            for (int first = 0; first < 10; first++) {
                DatalogMill m = plain(1);
                for (int i = 0; i < 10; i++) {
                    always(m, 0, i);
                }
                m.drop(first);
                due("drop(" + first + ")", m.holds(0, first, 0, 0), false);
                due("the others", m.count(0), 9);
                for (int i = 0; i < 10; i++) {
                    int number = i;
                    refused("bindings(" + i + ")", i == first ? INDEX : 0, () -> m.bindings(number));
                }
            }
        });
        says("if there is no such rule", () -> {
            DatalogMill m = plain(1);
            refused("0 of none", INDEX, () -> m.drop(0));
            always(m, 0, 1);
            for (int number : new int[] {-1, 1, 10, MIN, MAX}) {
                refused("drop(" + number + ")", INDEX, () -> m.drop(number));
            }
            due("rules", m.rules(), 1);
        });
        says("or it was taken away", () -> {
            DatalogMill m = plain(1);
            always(m, 0, 1);
            always(m, 0, 2);
            m.drop(0);
            refused("drop(0)", INDEX, () -> m.drop(0));
            always(m, 0, 3);
            refused("drop(0) though there is a new one", INDEX, () -> m.drop(0));
            due("rules", m.rules(), 2);
        });
        says("Throws `IllegalStateException` if what follows would be TOO_MUCH", () -> {
            DatalogMill m = brink();
            due("add", always(m, 1, 9), 1);
            m.takeBack(1, 7, 0, 0);
            refused("the guard of 36 pairs", STATE, () -> m.drop(1));
            due("rules", m.rules(), 2);
            due("it is there", m.bindings(1), 1);
            m.takeBack(0, 0, 0, 0);
            refused("the guard of 25 pairs", 0, () -> m.drop(1));
            due("25 pairs", m.count(2), 25);
            DatalogMill first = plain(1, 1, 2);
            always(first, 1, 9);
            rule(first, FOLLOWS, 2, X, Y);
            atom(first, 0, X);
            atom(first, 0, Y);
            not(first, 1, ANY);
            first.add();
            always(first, 0, 30);
            for (int i = 0; i < 5; i++) {
                fact(first, 0, i);
            }
            always(first, 0, 31);
            first.drop(3);
            refused("the guard is the first rule", STATE, () -> first.drop(0));
            due("it is there", first.bindings(0), 1);
            due("so are the others", first.bindings(2), 1);
            due("rules", first.rules(), 3);
            for (int i = 4; i < 11; i++) {
                due("rules that come then", always(first, 1, 40 + i), i);
                due("the guard", first.reaches(0, 9, 0, 0), 1);
            }
            for (int i = 4; i < 11; i++) {
                due("they stay what they are", first.reaches(i, 40 + i, 0, 0), 1);
            }
            for (int i = 4; i < 11; i++) {
                first.drop(i);
            }
            refused("the guard", STATE, () -> first.drop(0));
            for (int i = 0; i < 7; i++) {
                never(first);
                first.compare(SAME, 1, 1);
                due("rules that come then", first.add(), 11 + i);
            }
            refused("the guard of 10 rules", STATE, () -> first.drop(0));
            due("rules", first.rules(), 10);
            dueRows(first, 1, 90000);
            due("the last one", first.bindings(17), 1);
        });
    }

    private static void promises14And15() {
        section("Promise 14: rules");
        says("Returns how many rules there are", () -> {
            DatalogMill m = plain(1);
            due("none", m.rules(), 0);
            never(m);
            due("a draft is none", m.rules(), 0);
            m.compare(SAME, 1, 2);
            m.add();
            due("NEVER is one", m.rules(), 1);
            for (int i = 2; i <= 10; i++) {
                always(m, 0, i);
                due("rules", m.rules(), i);
            }
            m.drop(4);
            due("nine", m.rules(), 9);
            always(m, 0, 4);
            due("ten", m.rules(), 10);
            for (int number : new int[] {0, 1, 2, 3, 5, 6, 7, 8, 9, 10}) {
                m.drop(number);
            }
            due("none again", m.rules(), 0);
        });
        section("Promise 15: layer");
        says("Returns the layer of a relation", () -> {
            DatalogMill m = chain();
            for (int r = 0; r < 6; r++) {
                due("layer(" + r + ")", m.layer(r), r);
            }
        });
        says("Returns the layer.", () -> {
            DatalogMill m = chain();
            m.drop(2);
            int[] due = {0, 1, 2, 0, 1, 2};
            for (int r = 0; r < 6; r++) {
                due("layer(" + r + ") without the rule of 3", m.layer(r), due[r]);
            }
            rule(m, FOLLOWS, 3, X);
            atom(m, 2, X);
            m.add();
            int[] near = {0, 1, 2, 2, 3, 4};
            for (int r = 0; r < 6; r++) {
                due("layer(" + r + ") with a near atom in it", m.layer(r), near[r]);
            }
            DatalogMill v = valued();
            rule(v, FOLLOWS, 5, X);
            atom(v, 4, X);
            v.add();
            due("of a LEAST one", v.layer(5), 1);
            rule(v, FOLLOWS, 4, 7);
            atom(v, 5, ANY);
            due("closes a circle, in which X falls, in a head", v.add(), SHRINKING);
            due("so it is as it was", v.layer(5), 1);
            v.drop(0);
            rule(v, FOLLOWS, 5, 3);
            atom(v, 4, X);
            v.add();
            due("of a LEAST one", v.layer(5), 1);
            rule(v, FOLLOWS, 4, 7);
            atom(v, 5, ANY);
            due("closes a circle", v.add(), 2);
            due("in its circle", v.layer(5), 0);
            v.drop(2);
            due("the circle is gone", v.layer(5), 1);
        });
        says(RELATION, () -> dueRelations((m, r, a, b, c) -> m.layer(r)));
        says(NO_RELATION, () -> dueNoRelations((m, r, a, b, c) -> m.layer(r)));
    }

    /** Six relations, each with a rule (but the first) that negates the one ahead of it: layers 0 to 5. */
    private static DatalogMill chain() {
        DatalogMill m = plain(1, 1, 1, 1, 1, 1);
        for (int r = 1; r < 6; r++) {
            rule(m, FOLLOWS, r, 5);
            not(m, r - 1, 5);
            m.add();
        }
        return m;
    }

    // ---- rows

    private static void promises16And17() {
        section("Promise 16: count");
        says("Returns how many rows a relation has", () -> {
            DatalogMill m = plain(1, 1);
            fact(m, 0, 1);
            always(m, 0, 1);
            always(m, 0, 2);
            due("a fact, the same by a rule, another by a rule", m.count(0), 2);
            due("of another relation", m.count(1), 0);
            DatalogMill v = valued();
            fact(v, 1, 1, 5);
            fact(v, 1, 1, 6);
            due("of one key one row", v.count(1), 1);
        });
        says("Returns 0 to 32", () -> {
            due("none", plain(1).count(0), 0);
            due("32", thirtyTwo().count(0), 32);
        });
        says(RELATION, () -> dueRelations((m, r, a, b, c) -> m.count(r)));
        says(NO_RELATION, () -> dueNoRelations((m, r, a, b, c) -> m.count(r)));
        section("Promise 17: rowAt");
        says("Returns a row of a relation", () -> {
            DatalogMill m = plain(1, 1);
            fact(m, 0, 7);
            always(m, 1, 8);
            due("a fact", m.rowAt(0, 0), 70000);
            due("what follows", m.rowAt(1, 0), 80000);
        });
        says(RELATION, () -> dueRelations((m, r, a, b, c) -> {
            m.fact(r, 0, 0, 0, 1, NONE);
            m.rowAt(r, 0);
        }));
        says("- `place`: 0 for the first one in their order", () -> {
            DatalogMill m = plain(1);
            for (int n : new int[] {50, 0, 99, 7, 49}) {
                fact(m, 0, n);
            }
            dueRows(m, 0, 0, 70000, 490000, 500000, 990000);
            for (int r = 0; r < 6; r++) {
                DatalogMill n = plain(1, 1, 1, 1, 1, 1);
                for (int row : new int[] {50, 40}) {
                    always(n, r, row);
                }
                dueRows(n, r, 400000, 500000);
                fact(n, r, 45);
                dueRows(n, r, 400000, 450000, 500000);
                for (int row : new int[] {99, 7, 60, 0, 55}) {
                    always(n, r, row);
                }
                dueRows(n, r, 0, 70000, 400000, 450000, 500000, 550000, 600000, 990000);
            }
        });
        says("Returns 10000 times a, 100 times b, and c, added", () -> {
            DatalogMill m = plain(3, 2, 1);
            fact(m, 0, 12, 34, 56);
            fact(m, 0, 99, 99, 99);
            fact(m, 0, 0, 0, 0);
            fact(m, 1, 12, 34);
            fact(m, 2, 12);
            dueRows(m, 0, 0, 123456, 999999);
            dueRows(m, 1, 123400);
            dueRows(m, 2, 120000);
        });
        says("if there is no such relation", () -> dueNoRelations((m, r, a, b, c) -> m.rowAt(r, 0)));
        says("or it has not so many rows", () -> {
            refused("0 of none", INDEX, () -> plain(1).rowAt(0, 0));
            DatalogMill m = thirtyTwo();
            due("31 of 32", m.rowAt(0, 31), 310000);
            refused("32 of 32", INDEX, () -> m.rowAt(0, 32));
            refused("the greatest int", INDEX, () -> m.rowAt(0, MAX));
            m.takeBack(0, 0, 0, 0);
            fact(m, 0, 1);
            due("30 of 31", m.rowAt(0, 30), 310000);
            refused("31 of 31", INDEX, () -> m.rowAt(0, 31));
        });
        says("or place is below 0", () -> {
            refused("-1", INDEX, () -> thirtyTwo().rowAt(0, -1));
            refused("the least int", INDEX, () -> thirtyTwo().rowAt(0, MIN));
        });
    }

    /** Relation 0 has the rows 0 to 31, by one fact and a rule. */
    private static DatalogMill thirtyTwo() {
        DatalogMill m = plain(1);
        fact(m, 0, 0);
        rule(m, FOLLOWS, 0, Y);
        atom(m, 0, X);
        m.compare(LESS, X, 31);
        m.reckon(Y, PLUS, X, 1);
        m.add();
        return m;
    }

    private static void promises18And19() {
        OfRow holds = (m, r, a, b, c) -> m.holds(r, a, b, c);
        OfRow holdsAnew = (m, r, a, b, c) -> m.holdsAnew(r, a, b, c);
        section("Promise 18: holds");
        says("Tells whether a relation has a row", () -> {
            DatalogMill m = thirtyTwo();
            for (int n = 0; n < 100; n++) {
                due("holds(0, " + n + ")", m.holds(0, n, 0, 0), n < 32);
            }
        });
        says("Returns whether it has", () -> {
            DatalogMill m = lowAndHigh();
            due("0, 0, 0", m.holds(5, 0, 0, 0), true);
            due("99, 99, 99", m.holds(5, 99, 99, 99), true);
            due("99, 99, 0", m.holds(5, 99, 99, 0), false);
            due("0, 99", m.holds(4, 0, 99, 0), false);
        });
        says(RELATION, () -> dueRelations(holds));
        says(ROW, () -> dueRowsTaken(0, 99, holds));
        says(NO_RELATION, () -> dueNoRelations(holds));
        says(NO_ROW, () -> dueRowsRefused(-1, 100, holds));
        section("Promise 19: holdsAnew");
        says("Tells the same, found anew from facts and rules alone", () -> {
            DatalogMill m = paths();
            fact(m, 0, 1, 2);
            fact(m, 0, 2, 3);
            fact(m, 0, 3, 1);
            m.takeBack(0, 2, 3, 0);
            for (int a = 1; a <= 3; a++) {
                for (int b = 1; b <= 3; b++) {
                    due("path " + a + ", " + b, m.holdsAnew(1, a, b, 0), m.holds(1, a, b, 0));
                }
            }
            String ahead = stateOf(m);
            m.holdsAnew(1, 1, 2, 0);
            due("what there is", stateOf(m), ahead);
        });
        says("Returns whether it has", () -> {
            DatalogMill m = thirtyTwo();
            due("31", m.holdsAnew(0, 31, 0, 0), true);
            due("32", m.holdsAnew(0, 32, 0, 0), false);
            DatalogMill v = valued();
            fact(v, 1, 1, 5);
            fact(v, 1, 1, 6);
            due("not the least", v.holdsAnew(1, 1, 6, 0), false);
            due("the least", v.holdsAnew(1, 1, 5, 0), true);
        });
        says(RELATION, () -> dueRelations(holdsAnew));
        says(ROW, () -> dueRowsTaken(0, 99, holdsAnew));
        says(NO_RELATION, () -> dueNoRelations(holdsAnew));
        says(NO_ROW, () -> dueRowsRefused(-1, 100, holdsAnew));
    }

    private static void promise20() {
        OfRow answers = (m, r, a, b, c) -> m.answers(r, a, b, c);
        section("Promise 20: answers");
        says("Returns how many rows of a relation fit", () -> {
            DatalogMill m = plain(3);
            for (int i = 0; i < 24; i++) {
                fact(m, 0, i % 2, i / 2 % 3, i / 6);
            }
            due("all", m.answers(0, ANY, ANY, ANY), 24);
            due("a", m.answers(0, 1, ANY, ANY), 12);
            due("b", m.answers(0, ANY, 2, ANY), 8);
            due("c", m.answers(0, ANY, ANY, 3), 6);
            due("a and b", m.answers(0, 0, 0, ANY), 4);
            due("b and c", m.answers(0, ANY, 1, 2), 2);
            due("a and c", m.answers(0, 1, ANY, 0), 3);
            due("a, b and c", m.answers(0, 1, 2, 3), 1);
        });
        says("Returns how many.", () -> {
            due("of none", plain(1).answers(0, ANY, 0, 0), 0);
            due("of 32", thirtyTwo().answers(0, ANY, 0, 0), 32);
            due("31 of 32", thirtyTwo().answers(0, 31, 0, 0), 1);
            due("32 of 32", thirtyTwo().answers(0, 32, 0, 0), 0);
        });
        says(RELATION, () -> dueRelations(answers));
        says("- `a`: a number or ANY, likewise b and c", () -> dueRowsTaken(ANY, 99, answers));
        says("those behind its columns have to be 0", () -> {
            refused("behind 1 column, b ANY", ARGUMENT, () -> six().answers(0, 0, ANY, 0));
            refused("behind 1 column, c ANY", ARGUMENT, () -> six().answers(0, 0, 0, ANY));
            refused("behind 2 columns, c ANY", ARGUMENT, () -> six().answers(1, 0, 0, ANY));
            due("0 behind 1 column", lowAndHigh().answers(0, ANY, 0, 0), 2);
            due("0 behind 2 columns", lowAndHigh().answers(1, ANY, ANY, 0), 2);
        });
        says(NO_RELATION, () -> dueNoRelations(answers));
        says("if one of them is neither ANY nor 0 to 99", () -> dueRowsRefused(-2, 100, answers));
        says("or not 0 behind the columns", () -> {
            for (int n : new int[] {ANY, 1, 99}) {
                refused("behind 1 column, b " + n, ARGUMENT, () -> six().answers(0, 0, n, 0));
                refused("behind 2 columns, c " + n, ARGUMENT, () -> six().answers(1, 0, 0, n));
            }
        });
    }

    private static void promise21() {
        OfRow goals = (m, r, a, b, c) -> m.goals(r, a, b, c);
        section("Promise 21: goals");
        says("Returns how many goals a goal asks, and these ask, and so on", () -> {
            DatalogMill m = plain(1, 1, 1, 1);
            for (int r = 1; r < 4; r++) {
                rule(m, FOLLOWS, r, X);
                atom(m, r - 1, X);
                m.add();
            }
            for (int r = 0; r < 4; r++) {
                due("goals(" + r + ", 5)", m.goals(r, 5, 0, 0), r + 1);
            }
        });
        says("itself counted", () -> {
            due("no rules", plain(1).goals(0, 5, 0, 0), 1);
            DatalogMill m = plain(1);
            for (int i = 0; i < 10; i++) {
                always(m, 0, i);
                due("rules that ask nothing", m.goals(0, ANY, 0, 0), 1);
            }
        });
        says("each once", () -> {
            DatalogMill m = plain(1, 1);
            rule(m, FOLLOWS, 1, X);
            atom(m, 0, X);
            atom(m, 1, X);
            m.add();
            rule(m, FOLLOWS, 1, X);
            atom(m, 0, X);
            m.add();
            fact(m, 0, 5);
            due("1(5), and 0(5) of both rules; 1(5) asks itself", m.goals(1, 5, 0, 0), 2);
            DatalogMill twice = manyGoals(0);
            rule(twice, FOLLOWS, 2, 1);
            atom(twice, 0, ANY, Y);
            atom(twice, 0, X, ANY);
            atom(twice, 1, X, Y, 0);
            twice.add();
            due("484 goals of two rules", twice.goals(2, ANY, 0, 0), 486);
            // Behind 0(5) the atom 1(X) asks 1(5), which asks 0(5).
            due("1(ANY), 0(ANY), 1(5), 0(5)", m.goals(1, ANY, 0, 0), 4);
        });
        says(RELATION, () -> dueRelations(goals));
        says("- `a`: the goal: a number or ANY, likewise b and c", () -> dueRowsTaken(ANY, 99, goals));
        says("those behind its columns have to be 0", () -> {
            refused("behind 1 column, b ANY", ARGUMENT, () -> six().goals(0, 0, ANY, 0));
            refused("behind 1 column, c ANY", ARGUMENT, () -> six().goals(0, 0, 0, ANY));
            refused("behind 2 columns, c ANY", ARGUMENT, () -> six().goals(1, 0, 0, ANY));
        });
        says("Returns how many; 500 if there are more", () -> {
            int[][] moreAndDue = {{0, 486}, {13, 499}, {14, 500}, {15, 500}, {17, 500}};
            for (int[] each : moreAndDue) {
                due("486 and " + each[0], manyGoals(each[0]).goals(2, ANY, 0, 0), each[1]);
            }
        });
        says(NO_RELATION, () -> dueNoRelations(goals));
        says("if one of them is neither ANY nor 0 to 99", () -> dueRowsRefused(-2, 100, goals));
        says("or not 0 behind the columns", () -> {
            for (int n : new int[] {ANY, 1, 99}) {
                refused("behind 1 column, b " + n, ARGUMENT, () -> six().goals(0, 0, n, 0));
                refused("behind 2 columns, c " + n, ARGUMENT, () -> six().goals(1, 0, 0, n));
            }
        });
    }

    /** 2(ANY) asks 0(ANY, ANY) and 22 times 22 goals of relation 1: 486 goals; and so many more of relation 1. */
    private static DatalogMill manyGoals(int more) {
        DatalogMill m = plain(2, 3, 1);
        for (int i = 0; i < 22; i++) {
            fact(m, 0, i, 4 * i);
        }
        rule(m, FOLLOWS, 2, 1);
        atom(m, 0, X, ANY);
        atom(m, 0, ANY, Y);
        atom(m, 1, X, Y, 0);
        m.add();
        for (int i = 0; i < more; i++) {
            if (i % 3 == 0) {
                rule(m, FOLLOWS, 2, 1);
            }
            not(m, 1, 99, 99, i);
            if (i % 3 == 2 || i == more - 1) {
                m.add();
            }
        }
        return m;
    }

    private static void promises22And23() {
        section("Promise 22: came");
        says("Returns how many rows, of all relations, there are now that there were not", () -> {
            DatalogMill m = paths();
            fact(m, 0, 1, 2);
            due("an edge, a path", m.came(), 2);
            fact(m, 0, 2, 3);
            due("an edge, two paths", m.came(), 3);
            m.takeBack(0, 2, 3, 0);
            due("taken back", m.came(), 0);
            always(m, 0, 2, 3);
            due("by a rule", m.came(), 3);
            m.drop(2);
            due("dropped", m.came(), 0);
        });
        says("ahead of the latest call that changed facts, rules or the time", () -> {
            DatalogMill m = plain(1, 1);
            fact(m, 0, 1);
            dueAfter(m, "fact", 1, 0);
            fact(m, 0, 2);
            m.relation(1, PLAIN);
            dueAfter(m, "relation changes none of them", 1, 0);
            rule(m, FOLLOWS, 1, X);
            atom(m, 0, X);
            dueAfter(m, "nor does a draft", 1, 0);
            m.add();
            dueAfter(m, "add", 2, 0);
            m.holdsAnew(1, 1, 0, 0);
            m.needs(1, 1, 0, 0);
            m.repair();
            dueAfter(m, "questions change nothing", 2, 0);
            m.pass(1);
            dueAfter(m, "pass", 0, 0);
            m.drop(0);
            dueAfter(m, "drop", 0, 2);
            m.takeBack(0, 1, 0, 0);
            dueAfter(m, "takeBack", 0, 1);
            never(m);
            not(m, 1, 1);
            m.add();
            dueAfter(m, "add of NEVER", 0, 0);
            fact(m, 0, 1);
            always(m, 0, 1);
            dueAfter(m, "a rule for what is there", 0, 0);
            m.takeBack(0, 1, 0, 0);
            dueAfter(m, "a fact that follows yet", 0, 0);
            m.fact(0, 9, 0, 0, 1, 3);
            m.pass(2);
            dueAfter(m, "the end of a fact", 0, 1);
        });
        says("and did not throw or refuse", () -> {
            DatalogMill m = brink();
            m.fact(1, 8, 0, 0, 1, 2);
            m.takeBack(1, 7, 0, 0);
            fact(m, 0, 50);
            dueAfter(m, "fact", 1, 0);
            refused("fact", STATE, () -> fact(m, 0, 50));
            refused("takeBack", STATE, () -> m.takeBack(1, 8, 0, 0));
            refused("pass", STATE, () -> m.pass(2));
            refused("add", STATE, m::add);
            refused("drop", INDEX, () -> m.drop(5));
            dueAfter(m, "what threw", 1, 0);
            rule(m, FOLLOWS, 2, X, Y);
            atom(m, 0, X);
            atom(m, 0, Y);
            due("add", m.add(), TOO_MUCH);
            dueAfter(m, "TOO_MUCH", 1, 0);
            rule(m, FOLLOWS, 0, X);
            not(m, 0, 4);
            due("add", m.add(), UNSAFE);
            dueAfter(m, "UNSAFE", 1, 0);
        });
        section("Promise 23: went");
        says("Returns how many rows, of all relations, there were ahead of that call that there are not now", () -> {
            DatalogMill m = paths();
            fact(m, 0, 1, 2);
            fact(m, 0, 2, 3);
            m.takeBack(0, 1, 2, 0);
            dueAfter(m, "an edge, two paths", 0, 3);
            DatalogMill v = valued();
            fact(v, 1, 1, 6);
            fact(v, 1, 1, 5);
            dueAfter(v, "a lesser value", 1, 1);
            fact(v, 1, 1, 9);
            dueAfter(v, "a greater one", 0, 0);
            v.takeBack(1, 1, 5, 0);
            dueAfter(v, "back to the next one", 1, 1);
            DatalogMill n = plain(1, 1);
            rule(n, FOLLOWS, 1, 5);
            not(n, 0, 1);
            n.add();
            fact(n, 0, 1);
            dueAfter(n, "one comes, one goes", 1, 1);
        });
    }

    private static void dueAfter(DatalogMill m, String what, int came, int went) {
        due("came after: " + what, m.came(), came);
        due("went after: " + what, m.went(), went);
    }

    // ---- ways

    private static void promise24() {
        OfRow ways = (m, r, a, b, c) -> m.ways(r, a, b, c);
        section("Promise 24: ways");
        says("Returns how many ways lead to a row", () -> {
            DatalogMill m = plain(1, 2);
            always(m, 0, 5);
            due("a rule", m.ways(0, 5, 0, 0), 1);
            fact(m, 0, 5);
            due("and a fact", m.ways(0, 5, 0, 0), 2);
            fact(m, 1, 5, 1);
            fact(m, 1, 5, 2);
            rule(m, FOLLOWS, 0, X);
            atom(m, 1, X, Y);
            m.add();
            due("and two bindings", m.ways(0, 5, 0, 0), 4);
        });
        says("0 if the relation does not have it", () -> {
            due("none", plain(1).ways(0, 5, 0, 0), 0);
            DatalogMill v = valued();
            fact(v, 1, 1, 5);
            fact(v, 1, 1, 6);
            rule(v, FOLLOWS, 1, 1, 6);
            v.compare(SAME, 1, 1);
            v.add();
            due("a fact and a binding for what is not the least", v.ways(1, 1, 6, 0), 0);
            due("the least", v.ways(1, 1, 5, 0), 1);
        });
        dueOfRow(ways, (m, row) -> m.ways(0, row, 0, 0));
    }

    private interface Asked {
        int answer(DatalogMill m, int row);
    }

    /** What ways, height, price and needs say alike of their arguments. */
    private static void dueOfRow(OfRow call, Asked asked) {
        says(RELATION, () -> dueRelations(call));
        says(ROW, () -> dueRowsTaken(0, 99, call));
        says(NO_RELATION, () -> dueNoRelations(call));
        says(NO_ROW, () -> {
            dueRowsRefused(-1, 100, call);
            DatalogMill m = thirtyTwo();
            String ahead = stateOf(m);
            refused("row 100", ARGUMENT, () -> asked.answer(m, 100));
            due("what there is", stateOf(m), ahead);
        });
    }

    private static void promises25And26() {
        section("Promise 25: height");
        says("Returns the height of a row", () -> {
            DatalogMill m = thirtyTwo();
            for (int n = 0; n < 32; n++) {
                due("height of " + n, m.height(0, n, 0, 0), n);
            }
            fact(m, 0, 20);
            due("a fact in between", m.height(0, 20, 0, 0), 0);
            due("behind it", m.height(0, 25, 0, 0), 5);
            due("ahead of it", m.height(0, 19, 0, 0), 19);
        });
        says("Returns the height; NONE if it has none", () -> {
            DatalogMill m = onItself();
            due("99 follows from itself alone", m.holds(2, 4, 99, 0), true);
            due("so it has none", m.height(2, 4, 99, 0), NONE);
        });
        says("or the relation does not have it", () -> {
            due("none", plain(1).height(0, 5, 0, 0), NONE);
            due("32 of 0 to 31", thirtyTwo().height(0, 32, 0, 0), NONE);
            DatalogMill v = valued();
            fact(v, 1, 1, 5);
            fact(v, 1, 1, 6);
            due("a fact that is no row", v.height(1, 1, 6, 0), NONE);
        });
        dueOfRow((m, r, a, b, c) -> m.height(r, a, b, c), (m, row) -> m.height(0, row, 0, 0));
        section("Promise 26: price");
        says("Returns the price of a row", () -> {
            DatalogMill m = thirtyTwo();
            for (int n = 0; n < 32; n++) {
                due("price of " + n, m.price(0, n, 0, 0), n + 1);
            }
            m.fact(0, 20, 0, 0, 18, NONE);
            due("a fact in between", m.price(0, 20, 0, 0), 18);
            due("behind it", m.price(0, 25, 0, 0), 23);
            m.fact(0, 25, 0, 0, 24, NONE);
            due("a fact that is dearer", m.price(0, 25, 0, 0), 23);
        });
        says("Returns the price; NONE if it has none", () ->
                due("99 follows from itself alone", onItself().price(2, 4, 99, 0), NONE));
        says("or the relation does not have it", () -> {
            due("none", plain(1).price(0, 5, 0, 0), NONE);
            due("32 of 0 to 31", thirtyTwo().price(0, 32, 0, 0), NONE);
            DatalogMill v = valued();
            fact(v, 1, 1, 5);
            fact(v, 1, 1, 6);
            due("a fact that is no row", v.price(1, 1, 6, 0), NONE);
        });
        dueOfRow((m, r, a, b, c) -> m.price(r, a, b, c), (m, row) -> m.price(0, row, 0, 0));
    }

    /** 2(4, 7) is a fact, and the value rises by 3 again and again, to 99, which then only follows from itself. */
    private static DatalogMill onItself() {
        DatalogMill m = valued();
        fact(m, 2, 4, 7);
        rule(m, FOLLOWS, 2, X, W);
        atom(m, 2, X, V);
        m.reckon(W, PLUS, V, 3);
        m.add();
        return m;
    }

    private static void promise27() {
        section("Promise 27: needs");
        says("Counts the facts on which a row hangs: each of them without which, taken back alone, "
                + "the relation would not have it", () -> {
            DatalogMill m = paths();
            for (int i = 0; i < 5; i++) {
                fact(m, 0, i, i + 1);
            }
            for (int i = 1; i <= 5; i++) {
                due("path 0, " + i, m.needs(1, 0, i, 0), i);
            }
            due("an edge", m.needs(0, 3, 4, 0), 1);
            fact(m, 0, 1, 4);
            due("path 0, 5 with another way from 1 to 4", m.needs(1, 0, 5, 0), 2);
            always(m, 1, 0, 5);
            due("path 0, 5 follows from none", m.needs(1, 0, 5, 0), 0);
        });
        says("without which, taken back alone, the relation would not have it", () -> {
            DatalogMill m = plain(1, 1);
            fact(m, 0, 1);
            fact(m, 0, 2);
            rule(m, FOLLOWS, 1, 5);
            atom(m, 0, ANY);
            m.add();
            due("either is enough", m.needs(1, 5, 0, 0), 0);
            m.takeBack(0, 2, 0, 0);
            due("the one that is left", m.needs(1, 5, 0, 0), 1);
            String ahead = stateOf(m);
            m.needs(1, 5, 0, 0);
            due("what there is", stateOf(m), ahead);
            DatalogMill full = plain(1);
            for (int i = 0; i < 24; i++) {
                fact(full, 0, i);
            }
            for (int i = 0; i < 24; i++) {
                due("each of 24 facts needs itself", full.needs(0, i, 0, 0), 1);
            }
            DatalogMill sum = plain(1, 1);
            for (int i = 1; i <= 24; i++) {
                fact(sum, 0, i);
            }
            rule(sum, COUNTS, 1, 0);
            atom(sum, 0, X);
            sum.add();
            due("a count of 24 needs all of them", sum.needs(1, 24, 0, 0), 24);
        });
        says("Returns how many; 0 if the relation does not have it", () -> {
            DatalogMill m = paths();
            fact(m, 0, 1, 2);
            due("not a path", m.needs(1, 2, 1, 0), 0);
            DatalogMill n = plain(1, 1);
            fact(n, 0, 1);
            rule(n, FOLLOWS, 1, 5);
            not(n, 0, 1);
            n.add();
            due("a row that would come without a fact", n.needs(1, 5, 0, 0), 0);
        });
        says("(a fact without which what follows would be TOO_MUCH does not count)", () -> {
            DatalogMill m = brink();
            due("the guard of 36 pairs", m.needs(1, 7, 0, 0), 0);
            m.takeBack(0, 5, 0, 0);
            due("the guard of 25 pairs", m.needs(1, 7, 0, 0), 1);
        });
        dueOfRow((m, r, a, b, c) -> m.needs(r, a, b, c), (m, row) -> m.needs(0, row, 0, 0));
    }

    private static void promise28() {
        OfRow reaches = (m, r, a, b, c) -> {
            m.rule(FOLLOWS, r, 0, 0, 0);
            m.compare(SAME, 1, 1);
            m.reaches(m.add(), a, b, c);
        };
        section("Promise 28: reaches");
        says("Tells how far a rule comes towards a row", () -> {
            DatalogMill m = plain(1, 1);
            fact(m, 0, 3);
            rule(m, FOLLOWS, 1, X);
            atom(m, 0, X);
            m.compare(LESS, X, 3);
            m.add();
            due("3 is in relation 0, but not less than 3", m.reaches(0, 3, 0, 0), 1);
            due("4 is not", m.reaches(0, 4, 0, 0), 0);
        });
        says("- `rule`: a rule that is FOLLOWS", () -> {
            DatalogMill m = plain(1);
            for (int i = 0; i < 10; i++) {
                always(m, 0, i);
            }
            for (int i = 0; i < 10; i++) {
                due("rule " + i, m.reaches(i, i, 0, 0), 1);
            }
        });
        says("- `a`: a row of the relation of its head, likewise b and c", () -> dueRowsTaken(0, 99, reaches));
        says("Returns the greatest number of literals, from the first one on, for which there are numbers", () -> {
            for (int good = 0; good <= 4; good++) {
                DatalogMill m = plain(1);
                rule(m, FOLLOWS, 0, 5);
                for (int i = 0; i < 4; i++) {
                    m.compare(SAME, 1, i == good ? 2 : 1);
                }
                m.add();
                due("literals ahead of the one that does not hold", m.reaches(0, 5, 0, 0), good);
            }
            DatalogMill m = plain(2, 1, 1, 1);
            fact(m, 0, 1, 1);
            fact(m, 0, 1, 2);
            fact(m, 0, 1, 3);
            fact(m, 1, 2);
            fact(m, 1, 3);
            fact(m, 2, 1);
            fact(m, 2, 3);
            rule(m, FOLLOWS, 3, X);
            atom(m, 0, X, Y);
            atom(m, 1, Y);
            not(m, 2, Y);
            m.compare(LESS, 2, Y);
            m.add();
            due("of all numbers the farthest: 2 gets over three", m.reaches(0, 1, 0, 0), 3);
        });
        says("and the head is the row as far as its variables have numbers by then", () -> {
            DatalogMill m = plain(1, 1, 2);
            fact(m, 0, 3);
            fact(m, 1, 4);
            rule(m, FOLLOWS, 2, X, Y);
            atom(m, 0, X);
            atom(m, 1, Y);
            m.add();
            due("both", m.reaches(0, 3, 4, 0), 2);
            due("the first alone", m.reaches(0, 3, 5, 0), 1);
            due("the second alone is not from the first on", m.reaches(0, 5, 4, 0), 0);
            rule(m, FOLLOWS, 2, Y, X);
            atom(m, 1, ANY);
            atom(m, 0, X);
            m.reckon(Y, TIMES, X, 3);
            m.add();
            for (int made = X; made <= LAST; made++) {
                DatalogMill n = plain(1, 1);
                int other = made == Y ? Z : Y;
                rule(n, FOLLOWS, 1, made);
                atom(n, 0, other);
                n.reckon(made, PLUS, other, 1);
                n.compare(LESS, 5, other);
                n.add();
                for (int i = 0; i < 9; i++) {
                    fact(n, 0, i);
                }
                for (int i = 0; i <= 10; i++) {
                    int due = i == 0 || i == 10 ? 1 : i <= 6 ? 2 : 3;
                    due("of what is made " + i, n.reaches(0, i, 0, 0), due);
                }
            }
            due("9, 3", m.reaches(1, 9, 3, 0), 3);
            due("8, 3", m.reaches(1, 8, 3, 0), 2);
            due("9, 2", m.reaches(1, 9, 2, 0), 1);
        });
        promise28Refused(reaches);
    }

    private static void promise28Refused(OfRow reaches) {
        says("NONE if a term of the head that is a number is not that of the row", () -> {
            DatalogMill m = plain(3);
            rule(m, FOLLOWS, 0, 1, 2, 3);
            m.compare(SAME, 1, 1);
            m.add();
            due("the row", m.reaches(0, 1, 2, 3), 1);
            due("a", m.reaches(0, 0, 2, 3), NONE);
            due("b", m.reaches(0, 1, 3, 3), NONE);
            due("c", m.reaches(0, 1, 2, 4), NONE);
        });
        says("or one variable would get two numbers", () -> {
            DatalogMill m = plain(3);
            rule(m, FOLLOWS, 0, X, 9, X);
            m.reckon(X, PLUS, 1, 1);
            m.add();
            due("2, 9, 2", m.reaches(0, 2, 9, 2), 1);
            due("3, 9, 3", m.reaches(0, 3, 9, 3), 0);
            due("2, 9, 3", m.reaches(0, 2, 9, 3), NONE);
        });
        says("if there is no such rule", () -> {
            DatalogMill m = plain(1);
            refused("0 of none", INDEX, () -> m.reaches(0, 1, 0, 0));
            always(m, 0, 1);
            for (int number : new int[] {-1, 1, MIN, MAX}) {
                refused("rule " + number, INDEX, () -> m.reaches(number, 1, 0, 0));
            }
        });
        says("or it was taken away", () -> {
            DatalogMill m = plain(1);
            always(m, 0, 1);
            always(m, 0, 2);
            m.drop(0);
            always(m, 0, 3);
            refused("rule 0", INDEX, () -> m.reaches(0, 1, 0, 0));
            due("rule 1", m.reaches(1, 2, 0, 0), 1);
            due("rule 2", m.reaches(2, 3, 0, 0), 1);
        });
        says("Throws `IllegalArgumentException` if it is not FOLLOWS", () -> {
            DatalogMill m = plain(1, 1);
            for (int kind = FOLLOWS; kind <= NEVER; kind++) {
                rule(m, kind, kind == NEVER ? NONE : 1, 0);
                atom(m, 0, X);
                int number = m.add();
                refused("kind " + kind, kind == FOLLOWS ? 0 : ARGUMENT, () -> m.reaches(number, 0, 0, 0));
            }
        });
        says("or the relation cannot have such a row", () -> dueRowsRefused(-1, 100, reaches));
    }

    // ---- what must never follow

    private static void promise29() {
        section("Promise 29: bindings");
        says("Returns how many bindings a rule has now", () -> {
            DatalogMill m = plain(1);
            never(m);
            atom(m, 0, X);
            atom(m, 0, Y);
            m.add();
            for (int i = 0; i < 10; i++) {
                due("pairs of " + i, m.bindings(0), i * i);
                fact(m, 0, i);
            }
            m.takeBack(0, 4, 0, 0);
            due("pairs of 9", m.bindings(0), 81);
            m.pass(100);
            due("pairs of 9", m.bindings(0), 81);
        });
        says("- `rule`: a rule", () -> {
            DatalogMill m = plain(1, 1);
            fact(m, 0, 3);
            fact(m, 0, 4);
            for (int i = 0; i < 10; i++) {
                rule(m, i % 4, i % 4 == NEVER ? NONE : 1, 0);
                atom(m, 0, X);
                due("add", m.add(), i);
            }
            for (int i = 0; i < 10; i++) {
                due("of rule " + i, m.bindings(i), 2);
            }
        });
        says("Returns how many.", () -> {
            DatalogMill m = thirtyTwo();
            never(m);
            atom(m, 0, X);
            atom(m, 0, Y);
            atom(m, 0, Z);
            m.add();
            due("32 times 32 times 32", m.bindings(1), 32768);
            never(m);
            m.compare(SAME, 1, 2);
            m.add();
            due("none", m.bindings(2), 0);
            never(m);
            m.compare(SAME, 1, 1);
            m.add();
            due("without variables one", m.bindings(3), 1);
        });
        says("if there is no such rule", () -> {
            DatalogMill m = plain(1);
            refused("0 of none", INDEX, () -> m.bindings(0));
            always(m, 0, 1);
            for (int number : new int[] {-1, 1, MIN, MAX}) {
                refused("rule " + number, INDEX, () -> m.bindings(number));
            }
            rule(m, FOLLOWS, 0, X);
            m.compare(SAME, 1, 1);
            m.add();
            refused("a refused one", INDEX, () -> m.bindings(1));
        });
        says("or it was taken away", () -> {
            DatalogMill m = plain(1);
            always(m, 0, 1);
            m.drop(0);
            refused("rule 0", INDEX, () -> m.bindings(0));
            always(m, 0, 1);
            refused("rule 0", INDEX, () -> m.bindings(0));
            due("rule 1", m.bindings(1), 1);
        });
    }

    /** Relations 0 to 2 with the facts 1 to 3 each; NEVER rules for these rows of these relations. */
    private static DatalogMill forbidden(int... relationsAndRows) {
        DatalogMill m = plain(1, 1, 1);
        for (int n = 3; n >= 1; n--) {
            for (int r = 2; r >= 0; r--) {
                m.fact(r, n, 0, 0, 10 * n + r, NONE);
            }
        }
        for (int i = 0; i < relationsAndRows.length; i += 2) {
            never(m);
            atom(m, relationsAndRows[i], relationsAndRows[i + 1]);
            m.add();
        }
        return m;
    }

    private static void dueRepair(String what, DatalogMill m, int... places) {
        due("repair: " + what, m.repair(), places.length);
        for (int i = 0; i < places.length; i++) {
            due("place " + i + ": " + what, m.repairAt(i), places[i]);
        }
        int behind = places.length;
        refused("the place behind: " + what, INDEX, () -> m.repairAt(behind));
    }

    private static void promises30And31() {
        section("Promise 30: repair");
        says("Returns how few facts have to be given up, so that no rule that is NEVER has a binding", () -> {
            due("nothing is forbidden", forbidden().repair(), 0);
            due("no fact is forbidden", forbidden(0, 4).repair(), 0);
            due("one is", forbidden(1, 2).repair(), 1);
            due("two are", forbidden(1, 2, 2, 3).repair(), 2);
            due("one is, twice", forbidden(1, 2, 1, 2).repair(), 1);
            DatalogMill m = forbidden(1, 2);
            m.repair();
            due("none was given up", m.facts(), 9);
            due("none was given up", m.holds(1, 2, 0, 0), true);
            m.takeBack(1, 2, 0, 0);
            due("it was taken back", m.repair(), 0);
            fact(m, 1, 2);
            due("it was told again", m.repair(), 1);
            m.drop(0);
            due("it may be", m.repair(), 0);
            m.fact(2, 9, 0, 0, 1, 2);
            never(m);
            atom(m, 2, 9);
            m.add();
            due("one that ends at 2", m.repair(), 1);
            m.pass(1);
            due("at 1", m.repair(), 1);
            m.pass(1);
            due("at 2", m.repair(), 0);
        });
        says("and what follows is not TOO_MUCH", () -> {
            DatalogMill m = brink();
            never(m);
            atom(m, 1, ANY);
            m.add();
            dueRepair("without the guard alone there would be 36 pairs", m, 0, 6);
            m.takeBack(0, 5, 0, 0);
            dueRepair("now there would be 25", m, 5);
            DatalogMill ahead = plain(1, 1, 2, 1);
            fact(ahead, 0, 7);
            fact(ahead, 3, 1);
            for (int i = 0; i < 6; i++) {
                fact(ahead, 1, i);
            }
            rule(ahead, FOLLOWS, 2, X, Y);
            atom(ahead, 1, X);
            atom(ahead, 1, Y);
            not(ahead, 0, ANY);
            ahead.add();
            never(ahead);
            atom(ahead, 0, ANY);
            ahead.add();
            dueRepair("the guard is the first fact", ahead, 0, 1);
            never(ahead);
            atom(ahead, 3, 99);
            atom(ahead, 3, ANY);
            ahead.compare(SAME, 1, 1);
            ahead.compare(SAME, 1, 1);
            ahead.add();
            dueRepair("a fact of a relation that is forbidden another row", ahead, 0, 1);
            fact(ahead, 0, 8);
            due("two guards, without both of which there would be 36", ahead.repair(), NONE);
        });
        says("Returns 0, 1 or 2; NONE if that is not enough", () -> {
            due("three are forbidden", forbidden(0, 1, 1, 2, 2, 3).repair(), NONE);
            DatalogMill m = forbidden();
            always(m, 0, 2);
            never(m);
            atom(m, 0, 2);
            m.add();
            due("what is forbidden follows from no fact", m.repair(), NONE);
            DatalogMill n = forbidden();
            never(n);
            not(n, 0, 2);
            n.add();
            due("it is missing only if it is given up", n.repair(), 0);
            n.takeBack(0, 2, 0, 0);
            due("it is missing", n.repair(), NONE);
            DatalogMill none = plain(1);
            never(none);
            not(none, 0, ANY);
            none.add();
            due("without facts", none.repair(), NONE);
            DatalogMill single = plain(1);
            fact(single, 0, 0);
            never(single);
            atom(single, 0, ANY);
            single.add();
            due("one fact, forbidden", single.repair(), 1);
            fact(single, 0, 1);
            due("two facts, forbidden", single.repair(), 2);
            fact(single, 0, 2);
            due("three facts, forbidden", single.repair(), NONE);
            DatalogMill full = plain(1, 1, 1, 1, 1, 1);
            for (int i = 0; i < 24; i++) {
                fact(full, i % 6, i);
            }
            for (int i = 0; i < 7; i++) {
                always(full, i % 5, 50 + i);
            }
            never(full);
            atom(full, 5, 23);
            full.add();
            dueRepair("24 facts, of which the last one is forbidden", full, 23);
            never(full);
            atom(full, 4, 22);
            full.add();
            dueRepair("24 facts, of which one ahead is, too", full, 19, 23);
            never(full);
            atom(full, 0, 50);
            full.add();
            due("24 facts and 10 rules, and what is no fact", full.repair(), NONE);
        });
        section("Promise 31: repairAt");
        says("Returns a fact of the first way to do so", () -> {
            DatalogMill m = forbidden();
            never(m);
            atom(m, 2, 1);
            atom(m, 0, 3);
            m.add();
            due("it need not be asked how many ahead", m.repairAt(0), 2);
            dueRepair("either is enough: the first", m, 2);
        });
        says("facts are ordered by relations, then as rows", () -> {
            for (int r = 0; r < 3; r++) {
                for (int n = 1; n <= 3; n++) {
                    dueRepair(r + "(" + n + ") is forbidden", forbidden(r, n), 3 * r + n - 1);
                }
            }
            DatalogMill m = plain(3);
            int[][] rows = {{1, 0, 0}, {0, 0, 2}, {0, 1, 1}, {0, 1, 0}, {0, 0, 10}};
            int[] places = {4, 0, 3, 2, 1};
            for (int[] row : rows) {
                fact(m, 0, row);
            }
            for (int i = 0; i < rows.length; i++) {
                never(m);
                atom(m, 0, rows[i]);
                int rule = m.add();
                dueRepair("row " + i + " is forbidden", m, places[i]);
                m.drop(rule);
            }
        });
        says("two pairs by their first facts, then by their second ones", () -> {
            DatalogMill m = forbidden();
            // Of the rows of relation 1, which are the facts 3 to 5, but one may stay.
            never(m);
            atom(m, 1, X);
            atom(m, 1, Y);
            m.compare(LESS, X, Y);
            m.add();
            dueRepair("pairs 3, 4 and 3, 5 and 4, 5", m, 3, 4);
            DatalogMill n = forbidden(0, 2);
            never(n);
            atom(n, 1, 3);
            atom(n, 0, 3);
            n.add();
            dueRepair("pairs 1, 2 and 1, 5", n, 1, 2);
            DatalogMill o = forbidden(2, 1);
            never(o);
            atom(o, 1, 3);
            atom(o, 2, 2);
            o.add();
            dueRepair("pairs 5, 6 and 6, 7", o, 5, 6);
        });
        says("- `place`: 0 to repair() less 1", () -> {
            dueRepair("two", forbidden(0, 1, 2, 3), 0, 8);
            dueRepair("one", forbidden(2, 3), 8);
            dueRepair("none", forbidden());
        });
        says("Returns the place of the fact in the order of all facts", () -> {
            DatalogMill v = valued();
            fact(v, 1, 1, 5);
            fact(v, 1, 1, 6);
            fact(v, 1, 0, 9);
            never(v);
            atom(v, 1, 1, 5);
            v.add();
            dueRepair("a fact that is no row has its place, too", v, 1);
            never(v);
            atom(v, 1, 1, 6);
            v.add();
            dueRepair("without 5 there would be 6", v, 1, 2);
        });
        says("Throws `IndexOutOfBoundsException` if there is no such place", () -> {
            refused("0 of none", INDEX, () -> forbidden().repairAt(0));
            refused("0 of NONE", INDEX, () -> forbidden(0, 1, 1, 2, 2, 3).repairAt(0));
            refused("1 of one", INDEX, () -> forbidden(0, 1).repairAt(1));
            refused("2 of two", INDEX, () -> forbidden(0, 1, 1, 2).repairAt(2));
            for (int place : new int[] {-1, MIN, MAX}) {
                refused("place " + place, INDEX, () -> forbidden(0, 1, 1, 2).repairAt(place));
            }
        });
    }
}
