import java.util.Arrays;

/**
 * A deductive database: facts and rules in, the rows that follow from them out.
 *
 * <p>The rows are found anew after each change, into a second store, which takes the place of the
 * first one only if the change stands: so a call that is refused has nothing to undo in the rows.
 */
public final class DatalogMill {
    public static final int NONE = -1;
    public static final int ANY = -1;
    public static final int PLAIN = 0, LEAST = 1, GREATEST = 2;
    public static final int FOLLOWS = 0, COUNTS = 1, SUMS = 2, NEVER = 3;
    public static final int SAME = 0, UNLIKE = 1, LESS = 2, AT_MOST = 3;
    public static final int PLUS = 0, MINUS = 1, TIMES = 2, LESSER = 3, GREATER = 4, REST = 5;
    public static final int UNSAFE = -2, LAYERLESS = -3, SHRINKING = -4, TOO_MUCH = -5;

    private static final int MOST_RELATIONS = 6;
    private static final int MOST_COLUMNS = 3;
    private static final int MOST_ROWS = 32;
    private static final int MOST_FACTS = 24;
    private static final int MOST_RULES = 10;
    private static final int MOST_LITERALS = 4;
    private static final int MOST_ATOMS = 3;
    private static final int MOST_GOALS = 500;
    private static final int MOST_STEPS = 100;
    private static final int MOST_NUMBER = 99;
    private static final int MOST_FACT_PRICE = 99;
    private static final int MOST_PRICE = 9999;
    private static final int FIRST_VARIABLE = 100;
    private static final int VARIABLES = 8;
    private static final int LAST_VARIABLE = FIRST_VARIABLE + VARIABLES - 1;

    /** What no run can reach: it only gives each loop an end. */
    private static final int FAR_OFF = 1000000;

    /** A row is kept as one number, its code; these are the weights of its columns in it. */
    private static final int[] UNITS = {10000, 100, 1};

    private final Relations relations;
    private final FactList factList;
    private final RuleBook book;
    private final Joiner joiner;
    private final Groups groups;
    private final Derivation derivation;
    private final Costs costs;
    private final GoalSearch goalSearch;
    private Rows rows;
    private Rows spare;
    private Rule draft;
    private boolean hasDraft;
    private int time;
    private int newRows;
    private int lostRows;
    private boolean areCostsKnown;
    private boolean isRepairKnown;
    private int repairSize;
    private final int[] repairPlaces;

    public DatalogMill() {
        relations = new Relations();
        factList = new FactList();
        book = new RuleBook(relations);
        rows = new Rows(relations);
        spare = new Rows(relations);
        draft = new Rule();
        joiner = new Joiner(draft, rows);
        groups = new Groups(joiner);
        derivation = new Derivation(book, factList, joiner, groups, rows);
        costs = new Costs(book, factList, joiner, groups, rows);
        goalSearch = new GoalSearch(book, joiner);
        repairPlaces = new int[2];
    }

    // ---- relations and facts

    public int relation(int columns, int kind) throws IllegalArgumentException, IllegalStateException {
        if (columns < 1 || columns > MOST_COLUMNS || kind < PLAIN || kind > GREATEST) {
            throw new IllegalArgumentException("columns or kind is out of range");
        }
        if (relations.size >= MOST_RELATIONS) {
            throw new IllegalStateException("there are 6 relations");
        }
        return relations.append(columns, kind);
    }

    public int fact(int relation, int a, int b, int c, int price, int end)
            throws IndexOutOfBoundsException, IllegalArgumentException, IllegalStateException {
        int code = codeOfRow(relation, a, b, c);
        if (price < 1 || price > MOST_FACT_PRICE || (end != NONE && end <= time)) {
            throw new IllegalArgumentException("price or end is out of range");
        }
        if (factList.placeOf(relation, code) != NONE || factList.size >= MOST_FACTS) {
            throw new IllegalStateException("there is this fact, or there are 24");
        }
        factList.insert(relation, code, price, end);
        if (!derivation.run(spare, time, NONE, NONE)) {
            factList.removeAt(factList.placeOf(relation, code));
            throw new IllegalStateException("what follows would be too much");
        }
        takeOver();
        return factList.size;
    }

    public int takeBack(int relation, int a, int b, int c)
            throws IndexOutOfBoundsException, IllegalArgumentException, IllegalStateException {
        int code = codeOfRow(relation, a, b, c);
        int place = factList.placeOf(relation, code);
        if (place == NONE) {
            throw new IllegalStateException("there is no such fact");
        }
        if (!derivation.run(spare, time, place, place)) {
            throw new IllegalStateException("what follows would be too much");
        }
        int price = factList.prices[place];
        factList.removeAt(place);
        takeOver();
        return price;
    }

    public int pass(int steps) throws IllegalArgumentException, IllegalStateException {
        if (steps < 1 || steps > MOST_STEPS) {
            throw new IllegalArgumentException("steps is out of range");
        }
        if (!derivation.run(spare, time + steps, NONE, NONE)) {
            throw new IllegalStateException("what follows would be too much");
        }
        time += steps;
        int ended = factList.removeEnded(time);
        takeOver();
        return ended;
    }

    public int now() {
        return time;
    }

    public int facts() {
        return factList.size;
    }

    // ---- rules

    public void rule(int kind, int relation, int a, int b, int c)
            throws IndexOutOfBoundsException, IllegalArgumentException {
        boolean isKind = kind >= FOLLOWS && kind <= NEVER;
        boolean canHaveHead = kind != NEVER && relations.has(relation);
        boolean canLackHead = (kind == NEVER || !isKind) && relation == NONE;
        if (!canHaveHead && !canLackHead) {
            throw new IndexOutOfBoundsException("there is no such relation");
        }
        int columns = canHaveHead ? relations.columns[relation] : 0;
        if (!isKind || !areWithin(columns, 0, LAST_VARIABLE, a, b, c)) {
            throw new IllegalArgumentException("kind or a term is out of range");
        }
        draft.begin(kind, relation, columns, a, b, c);
        hasDraft = true;
    }

    public int atom(int relation, boolean isNegated, int a, int b, int c)
            throws IndexOutOfBoundsException, IllegalArgumentException, IllegalStateException {
        requireRelation(relation);
        int columns = relations.columns[relation];
        if (!areWithin(columns, ANY, LAST_VARIABLE, a, b, c)) {
            throw new IllegalArgumentException("a term is none");
        }
        requireRoomInDraft();
        if (draft.atoms >= MOST_ATOMS) {
            throw new IllegalStateException("the draft has 3 atoms");
        }
        draft.append(isNegated ? Rule.NEGATED : Rule.ATOM, relation, columns, a, b, c);
        return draft.size;
    }

    public int compare(int comparison, int left, int right)
            throws IllegalArgumentException, IllegalStateException {
        if (comparison < SAME || comparison > AT_MOST || !areWithin(2, 0, LAST_VARIABLE, left, right, 0)) {
            throw new IllegalArgumentException("an argument is out of range");
        }
        requireRoomInDraft();
        draft.append(Rule.COMPARISON, comparison, 2, left, right, 0);
        return draft.size;
    }

    public int reckon(int variable, int reckoning, int left, int right)
            throws IllegalArgumentException, IllegalStateException {
        if (slotOf(variable) == NONE || reckoning < PLUS || reckoning > REST
                || !areWithin(2, 0, LAST_VARIABLE, left, right, 0)) {
            throw new IllegalArgumentException("an argument is out of range");
        }
        requireRoomInDraft();
        draft.append(Rule.RECKONING, reckoning, 2, left, right, variable);
        return draft.size;
    }

    public int add() throws IllegalStateException {
        if (!hasDraft || draft.size == 0 || book.size >= MOST_RULES) {
            throw new IllegalStateException("there is no draft with literals, or there are 10 rules");
        }
        hasDraft = false;
        if (!draft.isSafe()) {
            return UNSAFE;
        }
        draft = book.append(draft);
        int refusal = book.refusal();
        if (refusal == NONE && !derivation.run(spare, time, NONE, NONE)) {
            refusal = TOO_MUCH;
        }
        if (refusal != NONE) {
            book.removeAt(book.size - 1);
            return refusal;
        }
        takeOver();
        return book.numberLast();
    }

    public void drop(int rule) throws IndexOutOfBoundsException, IllegalStateException {
        int place = placeOfRule(rule);
        book.removeAt(place);
        if (!derivation.run(spare, time, NONE, NONE)) {
            book.putBackAt(place);
            throw new IllegalStateException("what follows would be too much");
        }
        takeOver();
    }

    public int rules() {
        return book.size;
    }

    public int layer(int relation) throws IndexOutOfBoundsException {
        requireRelation(relation);
        return relations.layers[relation];
    }

    // ---- rows

    public int count(int relation) throws IndexOutOfBoundsException {
        requireRelation(relation);
        return rows.sizes[relation];
    }

    public int rowAt(int relation, int place) throws IndexOutOfBoundsException {
        requireRelation(relation);
        if (place < 0 || place >= rows.sizes[relation]) {
            throw new IndexOutOfBoundsException("there is no such place");
        }
        return rows.codes[relation][place];
    }

    public boolean holds(int relation, int a, int b, int c)
            throws IndexOutOfBoundsException, IllegalArgumentException {
        int code = codeOfRow(relation, a, b, c);
        return rows.placeOf(relation, code) != NONE;
    }

    public boolean holdsAnew(int relation, int a, int b, int c)
            throws IndexOutOfBoundsException, IllegalArgumentException {
        int code = codeOfRow(relation, a, b, c);
        return derivation.run(spare, time, NONE, NONE) && spare.placeOf(relation, code) != NONE;
    }

    public int answers(int relation, int a, int b, int c)
            throws IndexOutOfBoundsException, IllegalArgumentException {
        requireQuestion(relation, a, b, c);
        int fitting = 0;
        for (int place = 0; place < rows.sizes[relation]; place++) {
            int code = rows.codes[relation][place];
            if (isMet(a, code / 10000) && isMet(b, code / 100 % 100) && isMet(c, code % 100)) {
                fitting++;
            }
        }
        return fitting;
    }

    public int goals(int relation, int a, int b, int c)
            throws IndexOutOfBoundsException, IllegalArgumentException {
        requireQuestion(relation, a, b, c);
        return goalSearch.run(rows, GoalSearch.goalOf(relation, a, b, c));
    }

    public int came() {
        return newRows;
    }

    public int went() {
        return lostRows;
    }

    // ---- ways

    public int ways(int relation, int a, int b, int c)
            throws IndexOutOfBoundsException, IllegalArgumentException {
        int code = codeOfRow(relation, a, b, c);
        if (rows.placeOf(relation, code) == NONE) {
            return 0;
        }
        int total = factList.placeOf(relation, code) == NONE ? 0 : 1;
        for (int place = 0; place < book.size; place++) {
            Rule rule = book.rules[place];
            if (rule.kind != NEVER && rule.relation == relation) {
                total += waysOf(rule, code);
            }
        }
        return total;
    }

    public int height(int relation, int a, int b, int c)
            throws IndexOutOfBoundsException, IllegalArgumentException {
        int code = codeOfRow(relation, a, b, c);
        int place = placeWithCosts(relation, code);
        return place == NONE ? NONE : costs.heights[relation][place];
    }

    public int price(int relation, int a, int b, int c)
            throws IndexOutOfBoundsException, IllegalArgumentException {
        int code = codeOfRow(relation, a, b, c);
        int place = placeWithCosts(relation, code);
        return place == NONE ? NONE : costs.prices[relation][place];
    }

    public int needs(int relation, int a, int b, int c)
            throws IndexOutOfBoundsException, IllegalArgumentException {
        int code = codeOfRow(relation, a, b, c);
        if (rows.placeOf(relation, code) == NONE) {
            return 0;
        }
        int bearing = relations.reach(relation);
        int needed = 0;
        for (int place = 0; place < factList.size; place++) {
            boolean bears = (bearing >> factList.relations[place] & 1) != 0;
            if (bears && derivation.run(spare, time, place, place) && spare.placeOf(relation, code) == NONE) {
                needed++;
            }
        }
        return needed;
    }

    public int reaches(int rule, int a, int b, int c)
            throws IndexOutOfBoundsException, IllegalArgumentException {
        int place = placeOfRule(rule);
        Rule asked = book.rules[place];
        if (asked.kind != FOLLOWS || !areWithin(asked.columns, 0, MOST_NUMBER, a, b, c)) {
            throw new IllegalArgumentException("the rule is not FOLLOWS, or its relation cannot have such a row");
        }
        joiner.begin(asked, rows, null);
        joiner.most = 1;
        if (!joiner.putInHead(asked.columns, codeOf(a, b, c))) {
            return NONE;
        }
        joiner.step(0);
        return joiner.deepest;
    }

    // ---- what must never follow

    public int bindings(int rule) throws IndexOutOfBoundsException {
        int place = placeOfRule(rule);
        joiner.begin(book.rules[place], rows, null);
        joiner.step(0);
        return joiner.bindings;
    }

    public int repair() {
        findRepair();
        return repairSize;
    }

    public int repairAt(int place) throws IndexOutOfBoundsException {
        findRepair();
        if (place < 0 || place >= repairSize || place >= repairPlaces.length) {
            throw new IndexOutOfBoundsException("there is no such place");
        }
        return repairPlaces[place];
    }

    // ---- what the calls have in common

    private void requireRelation(int relation) {
        if (!relations.has(relation)) {
            throw new IndexOutOfBoundsException("there is no such relation");
        }
    }

    private int codeOfRow(int relation, int a, int b, int c) {
        requireRelation(relation);
        if (!areWithin(relations.columns[relation], 0, MOST_NUMBER, a, b, c)) {
            throw new IllegalArgumentException("the relation cannot have such a row");
        }
        return codeOf(a, b, c);
    }

    private void requireQuestion(int relation, int a, int b, int c) {
        requireRelation(relation);
        if (!areWithin(relations.columns[relation], ANY, MOST_NUMBER, a, b, c)) {
            throw new IllegalArgumentException("a column is neither ANY nor a number that it can have");
        }
    }

    private void requireRoomInDraft() {
        if (!hasDraft || draft.size >= MOST_LITERALS) {
            throw new IllegalStateException("no draft was begun, or it has 4 literals");
        }
    }

    private int placeOfRule(int number) {
        int place = book.placeOf(number);
        if (place == NONE) {
            throw new IndexOutOfBoundsException("there is no such rule");
        }
        return place;
    }

    /** Makes the rows that were found last those of now. */
    private void takeOver() {
        spare.sort();
        newRows = spare.countMissingIn(rows);
        lostRows = rows.countMissingIn(spare);
        Rows former = rows;
        rows = spare;
        spare = former;
        areCostsKnown = false;
        isRepairKnown = false;
    }

    /** The place of a row, for which the costs are known then; NONE if it is none. */
    private int placeWithCosts(int relation, int code) {
        int place = rows.placeOf(relation, code);
        if (place != NONE && !areCostsKnown) {
            costs.find(rows);
            areCostsKnown = true;
        }
        return place;
    }

    private int waysOf(Rule rule, int code) {
        boolean isGrouped = rule.kind != FOLLOWS;
        joiner.begin(rule, rows, isGrouped ? groups : null);
        groups.begin(rule);
        if (!joiner.putInHead(isGrouped ? rule.columns - 1 : rule.columns, code)) {
            return 0;
        }
        joiner.step(0);
        if (!isGrouped) {
            return joiner.bindings;
        }
        int made = 0;
        for (int group = 0; group < groups.size; group++) {
            if (groups.rowOf(group) == code) {
                made++;
            }
        }
        return made;
    }

    private void findRepair() {
        if (isRepairKnown) {
            return;
        }
        isRepairKnown = true;
        repairSize = 0;
        if (!derivation.isBroken(rows)) {
            return;
        }
        int tooMuch = 0;
        for (int size = 1; size <= 2; size++) {
            for (int first = 0; first < factList.size; first++) {
                int end = size == 1 ? first + 1 : factList.size;
                for (int second = first + size - 1; second < end; second++) {
                    if (isHopeless(first, second, tooMuch)) {
                        continue;
                    }
                    boolean isEnough = derivation.run(spare, time, first, second);
                    if (isEnough && !derivation.isBroken(spare)) {
                        repairSize = size;
                        repairPlaces[0] = first;
                        repairPlaces[1] = second;
                        return;
                    }
                    tooMuch |= !isEnough && size == 1 ? 1 << first : 0;
                }
            }
        }
        repairSize = NONE;
    }

    /**
     * Whether giving up these two facts (or the one, if they are the same) cannot mend what is broken,
     * because one of them bears on no rule that is NEVER, and the other one was not enough. A fact
     * without which there would be too much (a bit of tooMuch) may yet be enough with any other one.
     */
    private boolean isHopeless(int first, int second, int tooMuch) {
        int bearing = book.reachOfNever();
        boolean firstBears = (bearing >> factList.relations[first] & 1) != 0;
        boolean secondBears = (bearing >> factList.relations[second] & 1) != 0;
        if (!firstBears) {
            return !secondBears || (tooMuch >> second & 1) == 0;
        }
        return !secondBears && (tooMuch >> first & 1) == 0;
    }

    private static int codeOf(int a, int b, int c) {
        return a * 10000 + b * 100 + c;
    }

    /** Whether the first ones, as many as columns, are from lowest to highest, and the others 0. */
    private static boolean areWithin(int columns, int lowest, int highest, int a, int b, int c) {
        return isWithin(columns > 0, lowest, highest, a)
                && isWithin(columns > 1, lowest, highest, b)
                && isWithin(columns > 2, lowest, highest, c);
    }

    private static boolean isWithin(boolean isColumn, int lowest, int highest, int number) {
        return isColumn ? number >= lowest && number <= highest : number == 0;
    }

    private static boolean isMet(int asked, int number) {
        return asked == ANY || asked == number;
    }

    private static int slotOf(int term) {
        return term >= FIRST_VARIABLE && term <= LAST_VARIABLE ? term - FIRST_VARIABLE : NONE;
    }

    /** The bit of a variable in a set of variables; no bit for what is none. */
    private static int bitOf(int term) {
        int slot = slotOf(term);
        return slot == NONE ? 0 : 1 << slot;
    }

    private static int reckoned(int reckoning, int left, int right) {
        int made;
        switch (reckoning) {
            case PLUS: made = left + right; break;
            case MINUS: made = left - right; break;
            case TIMES: made = left * right; break;
            case LESSER: made = Math.min(left, right); break;
            case GREATER: made = Math.max(left, right); break;
            default: made = right == 0 ? 0 : left % right; break;
        }
        return Math.max(0, Math.min(MOST_NUMBER, made));
    }

    private static boolean isSo(int comparison, int left, int right) {
        switch (comparison) {
            case SAME: return left == right;
            case UNLIKE: return left != right;
            case LESS: return left < right;
            default: return left <= right;
        }
    }

    /** The relations, what they hang on, and their layers. Sets of relations are bits of an int. */
    private static final class Relations {
        int size;
        final int[] columns = new int[MOST_RELATIONS];
        final int[] kinds = new int[MOST_RELATIONS];
        /** A row's code divided by this tells its key, as the value is the last column and 0 is behind it. */
        final int[] keyUnits = new int[MOST_RELATIONS];
        final int[] hangs = new int[MOST_RELATIONS];
        final int[] layers = new int[MOST_RELATIONS];
        int topLayer;

        boolean has(int relation) {
            return relation >= 0 && relation < size;
        }

        int append(int columnCount, int kind) {
            if (size >= MOST_RELATIONS || columnCount < 1 || columnCount > MOST_COLUMNS) {
                return NONE;
            }
            columns[size] = columnCount;
            kinds[size] = kind;
            keyUnits[size] = kind == PLAIN ? 1 : UNITS[columnCount - 1] * 100;
            size++;
            return size - 1;
        }

        boolean areOneCircle(int one, int other) {
            return one == other || ((hangs[one] >> other & 1) != 0 && (hangs[other] >> one & 1) != 0);
        }

        /** The relation and all that it hangs on. */
        int reach(int relation) {
            return hangs[relation] | 1 << relation;
        }

        /** Makes what hangs on what directly tell what hangs on what at all. */
        void closeHangs() {
            for (int middle = 0; middle < size; middle++) {
                for (int relation = 0; relation < size; relation++) {
                    if ((hangs[relation] >> middle & 1) != 0) {
                        hangs[relation] |= hangs[middle];
                    }
                }
            }
        }
    }

    /** The facts, ordered by relations, then as rows. */
    private static final class FactList {
        int size;
        final int[] relations = new int[MOST_FACTS];
        final int[] codes = new int[MOST_FACTS];
        final int[] prices = new int[MOST_FACTS];
        final int[] ends = new int[MOST_FACTS];

        int placeOf(int relation, int code) {
            for (int place = 0; place < size; place++) {
                if (relations[place] == relation && codes[place] == code) {
                    return place;
                }
            }
            return NONE;
        }

        void insert(int relation, int code, int price, int end) {
            if (size >= MOST_FACTS) {
                return;
            }
            int place = size;
            while (place > 0 && isBehind(place - 1, relation, code)) {
                move(place - 1, place);
                place--;
            }
            relations[place] = relation;
            codes[place] = code;
            prices[place] = price;
            ends[place] = end;
            size++;
        }

        void removeAt(int gone) {
            if (gone < 0 || gone >= size) {
                return;
            }
            for (int place = gone + 1; place < size; place++) {
                move(place, place - 1);
            }
            size--;
        }

        int removeEnded(int time) {
            int kept = 0;
            for (int place = 0; place < size; place++) {
                if (!isEnded(place, time)) {
                    move(place, kept);
                    kept++;
                }
            }
            int gone = size - kept;
            size = kept;
            return gone;
        }

        boolean isEnded(int place, int time) {
            return ends[place] != NONE && ends[place] <= time;
        }

        private boolean isBehind(int place, int relation, int code) {
            return relations[place] > relation || (relations[place] == relation && codes[place] > code);
        }

        private void move(int from, int to) {
            relations[to] = relations[from];
            codes[to] = codes[from];
            prices[to] = prices[from];
            ends[to] = ends[from];
        }
    }

    /** A rule: its head, and its literals with three terms each. Sets of variables are bits of an int. */
    private static final class Rule {
        static final int ATOM = 0, NEGATED = 1, COMPARISON = 2, RECKONING = 3;
        private static final int FALLS = -1, STAYS = 0, RISES = 1;

        int number;
        int kind;
        int relation;
        int columns;
        int size;
        int atoms;
        int lastAtom;
        /** How many literals have to hold until all variables of the head have numbers. */
        int headKnownAt;
        final int[] head = new int[MOST_COLUMNS];
        final int[] sorts = new int[MOST_LITERALS];
        /** The relation of an atom, or which comparison or reckoning it is. */
        final int[] subjects = new int[MOST_LITERALS];
        final int[] widths = new int[MOST_LITERALS];
        /** A reckoning has its variable as the third term, behind its width. */
        final int[] terms = new int[MOST_LITERALS * MOST_COLUMNS];
        final boolean[] hasAny = new boolean[MOST_LITERALS];
        private final int[] courses = new int[VARIABLES];

        void begin(int newKind, int newRelation, int newColumns, int a, int b, int c) {
            kind = newKind;
            relation = newRelation;
            columns = newColumns;
            head[0] = a;
            head[1] = b;
            head[2] = c;
            size = 0;
            atoms = 0;
            lastAtom = NONE;
            headKnownAt = 0;
        }

        void append(int sort, int subject, int width, int a, int b, int c) {
            if (size >= MOST_LITERALS) {
                return;
            }
            sorts[size] = sort;
            subjects[size] = subject;
            widths[size] = width;
            terms[size * MOST_COLUMNS] = a;
            terms[size * MOST_COLUMNS + 1] = b;
            terms[size * MOST_COLUMNS + 2] = c;
            hasAny[size] = a == ANY || b == ANY || c == ANY;
            if (isAtom(size)) {
                atoms++;
                lastAtom = size;
            }
            size++;
        }

        boolean isAtom(int literal) {
            return sorts[literal] == ATOM || sorts[literal] == NEGATED;
        }

        /**
         * The code that the first columns of the head make, with 0 for the others. It says once more what
         * numberOf says, and that what slotOf says, as the calls that lead here go eight deep already.
         */
        int headCode(int[] values, int columnCount) {
            int code = 0;
            for (int column = 0; column < columnCount; column++) {
                int term = head[column];
                boolean isVariable = term >= FIRST_VARIABLE && term <= LAST_VARIABLE;
                code += UNITS[column] * (isVariable ? values[term - FIRST_VARIABLE] : term);
            }
            return code;
        }

        int numberOf(int term, int[] values) {
            boolean isVariable = term >= FIRST_VARIABLE && term <= LAST_VARIABLE;
            return isVariable ? values[term - FIRST_VARIABLE] : term;
        }

        /** What of a row the literal looks at: rows that are the same in that are the same to it. */
        int seenOf(int literal, int code) {
            if (!hasAny[literal]) {
                return code;
            }
            int seen = 0;
            for (int column = 0; column < widths[literal]; column++) {
                if (terms[literal * MOST_COLUMNS + column] != ANY) {
                    seen += code / UNITS[column] % 100 * UNITS[column];
                }
            }
            return seen;
        }

        private int variablesOf(int literal) {
            int variables = 0;
            for (int column = 0; column < widths[literal]; column++) {
                variables |= bitOf(terms[literal * MOST_COLUMNS + column]);
            }
            return variables;
        }

        /** Whether the rule is not UNSAFE; also finds out when its head is known. */
        boolean isSafe() {
            int wanted = bitOf(head[0]) | bitOf(head[1]) | bitOf(head[2]);
            int known = 0;
            headKnownAt = wanted == 0 ? 0 : size;
            for (int literal = 0; literal < size; literal++) {
                int used = variablesOf(literal);
                int made = sorts[literal] == RECKONING ? bitOf(terms[literal * MOST_COLUMNS + 2]) : 0;
                if (sorts[literal] == ATOM) {
                    known |= used;
                } else if ((used & ~known) != 0 || (made & known) != 0) {
                    return false;
                }
                known |= made;
                if ((wanted & ~known) == 0) {
                    headKnownAt = Math.min(headKnownAt, literal + 1);
                }
            }
            boolean endsRight = kind != COUNTS || (columns > 0 && head[columns - 1] == 0);
            return (wanted & ~known) == 0 && endsRight;
        }

        /** Whether what falls or rises as rows are found could take back what the rule has made. */
        boolean isShrinking(Relations relations) {
            if (kind != FOLLOWS) {
                return false;
            }
            Arrays.fill(courses, STAYS);
            int ahead = 0;
            for (int literal = 0; literal < size; literal++) {
                boolean isGood;
                if (isAtom(literal)) {
                    isGood = isGoodAtom(literal, ahead, relations);
                } else {
                    isGood = sorts[literal] == COMPARISON ? isGoodComparison(literal) : isGoodReckoning(literal);
                }
                if (!isGood) {
                    return true;
                }
                ahead |= variablesOf(literal);
                ahead |= sorts[literal] == RECKONING ? bitOf(terms[literal * MOST_COLUMNS + 2]) : 0;
            }
            return !isGoodHead(relations);
        }

        private int courseOf(int term) {
            int slot = slotOf(term);
            return slot == NONE ? STAYS : courses[slot];
        }

        private boolean isGoodAtom(int literal, int ahead, Relations relations) {
            int subject = subjects[literal];
            boolean isGrowing = sorts[literal] == ATOM && relations.kinds[subject] != PLAIN
                    && relations.areOneCircle(subject, relation);
            int others = isGrowing ? widths[literal] - 1 : widths[literal];
            int taken = ahead;
            for (int column = 0; column < others; column++) {
                int term = terms[literal * MOST_COLUMNS + column];
                if (courseOf(term) != STAYS) {
                    return false;
                }
                taken |= bitOf(term);
            }
            if (!isGrowing) {
                return true;
            }
            int value = terms[literal * MOST_COLUMNS + others];
            int slot = slotOf(value);
            if (slot == NONE) {
                return value == ANY;
            }
            courses[slot] = relations.kinds[subject] == LEAST ? FALLS : RISES;
            return (taken & bitOf(value)) == 0;
        }

        private boolean isGoodComparison(int literal) {
            int left = courseOf(terms[literal * MOST_COLUMNS]);
            int right = courseOf(terms[literal * MOST_COLUMNS + 1]);
            if (left == STAYS && right == STAYS) {
                return true;
            }
            boolean isOrder = subjects[literal] == LESS || subjects[literal] == AT_MOST;
            return isOrder && ((left == FALLS && right == STAYS) || (left == STAYS && right == RISES));
        }

        private boolean isGoodReckoning(int literal) {
            int left = courseOf(terms[literal * MOST_COLUMNS]);
            int right = courseOf(terms[literal * MOST_COLUMNS + 1]);
            int slot = slotOf(terms[literal * MOST_COLUMNS + 2]);
            if (left == STAYS && right == STAYS) {
                return true;
            }
            int course;
            if (subjects[literal] == REST) {
                course = STAYS;
            } else if (subjects[literal] == MINUS) {
                course = left != STAYS && right != STAYS ? STAYS : left - right;
            } else {
                course = left == right ? left : left + right;
            }
            if (slot != NONE) {
                courses[slot] = course;
            }
            return course != STAYS;
        }

        private boolean isGoodHead(Relations relations) {
            int needed = relations.kinds[relation] == LEAST ? FALLS : RISES;
            for (int column = 0; column < columns; column++) {
                int course = courseOf(head[column]);
                boolean isValue = relations.kinds[relation] != PLAIN && column == columns - 1;
                if (course != STAYS && (!isValue || course != needed)) {
                    return false;
                }
            }
            return true;
        }
    }

    /** The rules of now, ordered by their numbers, and what they make of the relations. */
    private static final class RuleBook {
        private final Relations relations;
        int size;
        /** Behind the rules of now stand rules that are free to be used again. */
        final Rule[] rules = new Rule[MOST_RULES];
        private int added;

        RuleBook(Relations relations) {
            this.relations = relations;
            for (int place = 0; place < MOST_RULES; place++) {
                rules[place] = new Rule();
            }
        }

        int placeOf(int number) {
            for (int place = 0; place < size; place++) {
                if (rules[place].number == number) {
                    return place;
                }
            }
            return NONE;
        }

        /** Takes the rule in, and gives a free one for it. */
        Rule append(Rule rule) {
            if (size >= MOST_RULES) {
                return rule;
            }
            Rule free = rules[size];
            rules[size] = rule;
            rule.number = NONE;
            size++;
            return free;
        }

        /** Gives the last rule its number, now that it stays. */
        int numberLast() {
            if (size > 0) {
                rules[size - 1].number = added;
                added++;
            }
            return added - 1;
        }

        void removeAt(int gone) {
            if (gone < 0 || gone >= size) {
                return;
            }
            Rule rule = rules[gone];
            for (int place = gone + 1; place < size; place++) {
                rules[place - 1] = rules[place];
            }
            size--;
            rules[size] = rule;
            connect();
            layOut();
        }

        /** Takes back what removeAt did last. */
        void putBackAt(int back) {
            if (back < 0 || back > size || size >= MOST_RULES) {
                return;
            }
            Rule rule = rules[size];
            for (int place = size; place > back; place--) {
                rules[place] = rules[place - 1];
            }
            rules[back] = rule;
            size++;
            connect();
            layOut();
        }

        /** Looks at the relations with the rules of now: why they are refused, or NONE. */
        int refusal() {
            connect();
            for (int place = 0; place < size; place++) {
                if (isLayerless(rules[place])) {
                    return LAYERLESS;
                }
            }
            for (int place = 0; place < size; place++) {
                if (rules[place].isShrinking(relations)) {
                    return SHRINKING;
                }
            }
            layOut();
            return NONE;
        }

        /** The relations that can change what rules that are NEVER have as bindings. */
        int reachOfNever() {
            int reach = 0;
            for (int place = 0; place < size; place++) {
                Rule rule = rules[place];
                for (int literal = 0; literal < rule.size; literal++) {
                    if (rule.kind == NEVER && rule.isAtom(literal)) {
                        reach |= relations.reach(rule.subjects[literal]);
                    }
                }
            }
            return reach;
        }

        private void connect() {
            Arrays.fill(relations.hangs, 0);
            for (int place = 0; place < size; place++) {
                Rule rule = rules[place];
                for (int literal = 0; literal < rule.size; literal++) {
                    if (rule.kind != NEVER && rule.isAtom(literal)) {
                        relations.hangs[rule.relation] |= 1 << rule.subjects[literal];
                    }
                }
            }
            relations.closeHangs();
        }

        private boolean isLayerless(Rule rule) {
            if (rule.kind == NEVER) {
                return false;
            }
            for (int literal = 0; literal < rule.size; literal++) {
                boolean isFar = rule.kind != FOLLOWS || rule.sorts[literal] == Rule.NEGATED;
                if (rule.isAtom(literal) && isFar
                        && relations.areOneCircle(rule.relation, rule.subjects[literal])) {
                    return true;
                }
            }
            return false;
        }

        /** Lifts relations to their layers; what is not LAYERLESS comes to rest. */
        private void layOut() {
            Arrays.fill(relations.layers, 0);
            relations.topLayer = 0;
            boolean isRising = true;
            for (int round = 0; isRising && round < FAR_OFF; round++) {
                isRising = false;
                for (int place = 0; place < size; place++) {
                    if (rules[place].kind != NEVER && lift(rules[place])) {
                        isRising = true;
                    }
                }
            }
        }

        private boolean lift(Rule rule) {
            int layer = relations.layers[rule.relation];
            for (int literal = 0; literal < rule.size; literal++) {
                if (rule.isAtom(literal)) {
                    int subject = rule.subjects[literal];
                    boolean isNear = rule.kind == FOLLOWS && rule.sorts[literal] == Rule.ATOM
                            && (relations.kinds[subject] == PLAIN
                                    || relations.areOneCircle(subject, rule.relation));
                    layer = Math.max(layer, relations.layers[subject] + (isNear ? 0 : 1));
                }
            }
            boolean isLifted = layer > relations.layers[rule.relation];
            relations.layers[rule.relation] = layer;
            relations.topLayer = Math.max(relations.topLayer, layer);
            return isLifted;
        }
    }

    /** Rows of all relations. A stamp tells in which round of its layer a row came; 0 once the layer is done. */
    private static final class Rows {
        private final Relations relations;
        final int[] sizes = new int[MOST_RELATIONS];
        final int[][] codes = new int[MOST_RELATIONS][MOST_ROWS];
        final int[][] stamps = new int[MOST_RELATIONS][MOST_ROWS];
        final int[] latest = new int[MOST_RELATIONS];
        boolean isTooMuch;

        Rows(Relations relations) {
            this.relations = relations;
        }

        void clear() {
            Arrays.fill(sizes, 0);
            Arrays.fill(latest, 0);
            isTooMuch = false;
        }

        int placeOf(int relation, int code) {
            for (int place = 0; place < sizes[relation]; place++) {
                if (codes[relation][place] == code) {
                    return place;
                }
            }
            return NONE;
        }

        /** Whether put with this row would change something. */
        boolean wants(int relation, int code) {
            int rival = rivalOf(relation, code);
            return rival == NONE || isBetter(relation, code, codes[relation][rival]);
        }

        /** Adds a row, if it is new and none of its key is as good; answers whether that was so. */
        boolean put(int relation, int code, int stamp) {
            int place = rivalOf(relation, code);
            if (place == NONE) {
                place = sizes[relation];
                if (place >= MOST_ROWS) {
                    isTooMuch = true;
                    return false;
                }
                sizes[relation]++;
            } else if (!isBetter(relation, code, codes[relation][place])) {
                return false;
            }
            codes[relation][place] = code;
            stamps[relation][place] = stamp;
            latest[relation] = stamp;
            return true;
        }

        void closeLayer(int layer) {
            for (int relation = 0; relation < relations.size; relation++) {
                if (relations.layers[relation] == layer) {
                    Arrays.fill(stamps[relation], 0);
                    latest[relation] = 0;
                }
            }
        }

        void sort() {
            for (int relation = 0; relation < relations.size; relation++) {
                int[] sorted = codes[relation];
                for (int next = 1; next < sizes[relation]; next++) {
                    int code = sorted[next];
                    int place = next;
                    while (place > 0 && sorted[place - 1] > code) {
                        sorted[place] = sorted[place - 1];
                        place--;
                    }
                    sorted[place] = code;
                }
            }
        }

        int countMissingIn(Rows other) {
            int missing = 0;
            for (int relation = 0; relation < relations.size; relation++) {
                for (int place = 0; place < sizes[relation]; place++) {
                    if (other.placeOf(relation, codes[relation][place]) == NONE) {
                        missing++;
                    }
                }
            }
            return missing;
        }

        /** The place of the row with the same key, which is the whole row in a relation that is PLAIN. */
        private int rivalOf(int relation, int code) {
            int unit = relations.keyUnits[relation];
            if (unit < 1) {
                return NONE;
            }
            int key = code / unit;
            int[] all = codes[relation];
            for (int place = 0; place < sizes[relation]; place++) {
                if (all[place] / unit == key) {
                    return place;
                }
            }
            return NONE;
        }

        /** Rows with the same key are ordered as their values are. */
        private boolean isBetter(int relation, int code, int other) {
            int kind = relations.kinds[relation];
            return kind == LEAST ? code < other : kind == GREATEST && code > other;
        }
    }

    /** Is shown what a Joiner comes to. */
    private abstract static class Visitor {
        /** The literals ahead of this one hold; answers whether to look at it (behind the last: a binding). */
        abstract boolean reach(int literal);
    }

    /** Goes through the bindings of a rule, literal by literal, and shows a Visitor, if any, how far it comes. */
    private static final class Joiner {
        final int[] values = new int[VARIABLES];
        /** For each atom that is not negated, where the row stands that it has now. */
        final int[] places = new int[MOST_LITERALS];
        int bindings;
        int deepest;
        /** After so many bindings it stops. */
        int most;
        private boolean isStopped;
        private Rule rule;
        private Rows rows;
        /** Null, if none looks on. */
        private Visitor visitor;
        private int round;
        private int newAt;

        Joiner(Rule rule, Rows rows) {
            this.rule = rule;
            this.rows = rows;
        }

        void begin(Rule newRule, Rows newRows, Visitor newVisitor) {
            rule = newRule;
            rows = newRows;
            visitor = newVisitor;
            Arrays.fill(values, NONE);
            bindings = 0;
            deepest = 0;
            most = FAR_OFF;
            isStopped = false;
            round = 0;
            newAt = NONE;
        }

        /**
         * Of the rows by this round, the atom at newAt has just those of this round, and those ahead of it
         * just older ones: so in all rounds each binding comes once.
         */
        void limit(int toRound, int toNewAt) {
            round = toRound;
            newAt = toNewAt;
        }

        void stop() {
            isStopped = true;
        }

        /** Gives the term the number; answers whether it can have it. */
        boolean putIn(int term, int number) {
            int slot = slotOf(term);
            if (slot == NONE) {
                return term == number;
            }
            if (values[slot] == NONE) {
                values[slot] = number;
            }
            return values[slot] == number;
        }

        /** Puts the first columns of a row into the head; answers whether they can be there. */
        boolean putInHead(int columnCount, int code) {
            for (int column = 0; column < columnCount; column++) {
                if (!putIn(rule.head[column], code / UNITS[column] % 100)) {
                    return false;
                }
            }
            return true;
        }

        /** Goes on from this literal; the rule's few literals keep the recursion flat. */
        private void step(int literal) {
            deepest = Math.max(deepest, literal);
            boolean goesOn = visitor == null || visitor.reach(literal);
            if (literal >= rule.size) {
                bindings++;
                isStopped = isStopped || bindings >= most;
                return;
            }
            if (!goesOn || isStopped) {
                return;
            }
            int sort = rule.sorts[literal];
            if (sort == Rule.NEGATED || sort == Rule.COMPARISON) {
                if (sort == Rule.NEGATED ? !hasFitting(literal) : isComparisonSo(literal)) {
                    step(literal + 1);
                }
                return;
            }
            int relation = sort == Rule.ATOM ? rule.subjects[literal] : NONE;
            int ends = relation == NONE ? 1 : rows.sizes[relation];
            for (int place = 0; place < ends && !isStopped; place++) {
                int fresh = relation == NONE ? make(literal) : take(literal, relation, place);
                if (fresh != NONE) {
                    step(literal + 1);
                    release(fresh);
                }
            }
        }

        /** Takes a row for an atom: answers the variables that get numbers by that, or NONE if it cannot be. */
        private int take(int literal, int relation, int place) {
            int stamp = rows.stamps[relation][place];
            int highest = literal < newAt ? round - 1 : round;
            int lowest = literal == newAt ? round : 0;
            if (stamp < lowest || stamp > highest) {
                return NONE;
            }
            int fresh = bind(literal, rows.codes[relation][place]);
            if (fresh != NONE && rule.hasAny[literal] && isRepeated(literal, place, lowest, highest)) {
                release(fresh);
                return NONE;
            }
            places[literal] = place;
            return fresh;
        }

        private int bind(int literal, int code) {
            int fresh = 0;
            for (int column = 0; column < rule.widths[literal]; column++) {
                int term = rule.terms[literal * MOST_COLUMNS + column];
                int number = code / UNITS[column] % 100;
                if (term == ANY || term == number) {
                    continue;
                }
                int slot = slotOf(term);
                if (slot != NONE && values[slot] == NONE) {
                    values[slot] = number;
                    fresh |= 1 << slot;
                } else if (slot == NONE || values[slot] != number) {
                    release(fresh);
                    return NONE;
                }
            }
            return fresh;
        }

        private void release(int fresh) {
            if (fresh == 0) {
                return;
            }
            for (int slot = 0; slot < VARIABLES; slot++) {
                if ((fresh >> slot & 1) != 0) {
                    values[slot] = NONE;
                }
            }
        }

        /** Rows that differ only where the atom has ANY would give the same binding again. */
        private boolean isRepeated(int literal, int place, int lowest, int highest) {
            int relation = rule.subjects[literal];
            int seen = rule.seenOf(literal, rows.codes[relation][place]);
            for (int earlier = 0; earlier < place; earlier++) {
                int stamp = rows.stamps[relation][earlier];
                if (stamp >= lowest && stamp <= highest
                        && rule.seenOf(literal, rows.codes[relation][earlier]) == seen) {
                    return true;
                }
            }
            return false;
        }

        private boolean hasFitting(int literal) {
            int relation = rule.subjects[literal];
            for (int place = 0; place < rows.sizes[relation]; place++) {
                int fresh = bind(literal, rows.codes[relation][place]);
                if (fresh != NONE) {
                    release(fresh);
                    return true;
                }
            }
            return false;
        }

        private boolean isComparisonSo(int literal) {
            int left = rule.numberOf(rule.terms[literal * MOST_COLUMNS], values);
            int right = rule.numberOf(rule.terms[literal * MOST_COLUMNS + 1], values);
            return isSo(rule.subjects[literal], left, right);
        }

        private int make(int literal) {
            int left = rule.numberOf(rule.terms[literal * MOST_COLUMNS], values);
            int right = rule.numberOf(rule.terms[literal * MOST_COLUMNS + 1], values);
            int variable = rule.terms[literal * MOST_COLUMNS + 2];
            int slot = slotOf(variable);
            boolean isFresh = slot != NONE && values[slot] == NONE;
            boolean canBe = putIn(variable, reckoned(rule.subjects[literal], left, right));
            return canBe ? (isFresh ? 1 << slot : 0) : NONE;
        }
    }

    /** The groups of a COUNTS or SUMS rule, each with its key and what it has counted or summed up so far. */
    private static final class Groups extends Visitor {
        private final Joiner joiner;
        private Rule rule;
        int size;
        boolean isTooMuch;
        private final int[] keys = new int[MOST_ROWS];
        private final int[] totals = new int[MOST_ROWS];

        Groups(Joiner joiner) {
            this.joiner = joiner;
            this.rule = joiner.rule;
        }

        void begin(Rule newRule) {
            rule = newRule;
            size = 0;
            isTooMuch = false;
        }

        /** Once the head is known, going on is of use only if its group can still grow. */
        boolean reach(int literal) {
            if (literal < rule.headKnownAt) {
                return true;
            }
            int group = placeOf(rule.headCode(joiner.values, rule.columns - 1));
            if (group < size && totals[group] >= MOST_NUMBER) {
                return false;
            }
            if (literal >= rule.size && takeBinding() == NONE) {
                joiner.stop();
            }
            return true;
        }

        /** Puts the binding of now into its group; answers which one, or NONE if there would be too many. */
        int takeBinding() {
            int key = rule.headCode(joiner.values, rule.columns - 1);
            int group = placeOf(key);
            if (group >= MOST_ROWS) {
                isTooMuch = true;
                return NONE;
            }
            if (group == size) {
                keys[group] = key;
                totals[group] = 0;
                size++;
            }
            int more = 1;
            if (rule.kind == SUMS && rule.columns > 0) {
                more = rule.numberOf(rule.head[rule.columns - 1], joiner.values);
            }
            totals[group] = Math.min(MOST_NUMBER, totals[group] + more);
            return group;
        }

        /** Where the group with this key stands, or would stand if there was one more. */
        private int placeOf(int key) {
            int group = 0;
            while (group < size && keys[group] != key) {
                group++;
            }
            return group;
        }

        int rowOf(int group) {
            boolean isGroup = group >= 0 && group < size && rule.columns > 0;
            return isGroup ? keys[group] + totals[group] * UNITS[rule.columns - 1] : NONE;
        }
    }

    /** Finds the rows that follow. In a round each rule looks just for what the rows of the last round bring. */
    private static final class Derivation extends Visitor {
        private final Relations relations;
        private final RuleBook book;
        private final FactList factList;
        private final Joiner joiner;
        private final Groups groups;
        private Rows rows;
        private Rule rule;
        private int round;
        private boolean isGrowing;

        Derivation(RuleBook book, FactList factList, Joiner joiner, Groups groups, Rows rows) {
            this.relations = book.relations;
            this.book = book;
            this.factList = factList;
            this.joiner = joiner;
            this.groups = groups;
            this.rows = rows;
            this.rule = joiner.rule;
        }

        /**
         * Fills the target with what follows at a time, without two facts (or one, told twice, or none);
         * answers whether it is not too much.
         */
        boolean run(Rows target, int time, int firstGone, int secondGone) {
            rows = target;
            rows.clear();
            for (int place = 0; place < factList.size; place++) {
                if (place != firstGone && place != secondGone && !factList.isEnded(place, time)) {
                    rows.put(factList.relations[place], factList.codes[place], 0);
                }
            }
            for (int layer = 0; layer <= relations.topLayer && !rows.isTooMuch; layer++) {
                isGrowing = true;
                for (int turn = 0; isGrowing && !rows.isTooMuch && turn < FAR_OFF; turn++) {
                    round = turn;
                    isGrowing = false;
                    for (int place = 0; place < book.size; place++) {
                        rule = book.rules[place];
                        if (rule.kind != NEVER && relations.layers[rule.relation] == layer) {
                            fire();
                        }
                    }
                }
                rows.closeLayer(layer);
            }
            return !rows.isTooMuch;
        }

        /** Whether a rule that is NEVER has a binding. */
        boolean isBroken(Rows ofRows) {
            for (int place = 0; place < book.size; place++) {
                if (book.rules[place].kind == NEVER) {
                    joiner.begin(book.rules[place], ofRows, null);
                    joiner.most = 1;
                    joiner.step(0);
                    if (joiner.bindings > 0) {
                        return true;
                    }
                }
            }
            return false;
        }

        private void fire() {
            if (round == 0) {
                joiner.begin(rule, rows, rule.kind == FOLLOWS ? this : groups);
                groups.begin(rule);
                joiner.step(0);
                takeGroups();
                return;
            }
            if (rule.kind != FOLLOWS) {
                return;
            }
            for (int literal = 0; literal < rule.size && !rows.isTooMuch; literal++) {
                if (rule.sorts[literal] == Rule.ATOM && rows.latest[rule.subjects[literal]] >= round) {
                    joiner.begin(rule, rows, this);
                    joiner.limit(round, literal);
                    joiner.step(0);
                }
            }
        }

        private void takeGroups() {
            for (int group = 0; group < groups.size; group++) {
                rows.put(rule.relation, groups.rowOf(group), 1);
                isGrowing = true;
            }
            rows.isTooMuch = rows.isTooMuch || groups.isTooMuch;
        }

        /** Once the head is known, going on is of use only if its row would be new. */
        boolean reach(int literal) {
            if (literal < rule.headKnownAt) {
                return true;
            }
            int code = rule.headCode(joiner.values, rule.columns);
            if (literal < rule.size) {
                return rows.wants(rule.relation, code);
            }
            if (rows.put(rule.relation, code, round + 1)) {
                isGrowing = true;
            }
            if (rows.isTooMuch) {
                joiner.stop();
            }
            return false;
        }
    }

    /** The heights and prices of rows: none at first, then found again and again until none falls any more. */
    private static final class Costs extends Visitor {
        private final Relations relations;
        private final RuleBook book;
        private final FactList factList;
        private final Joiner joiner;
        private final Groups groups;
        private Rows rows;
        private Rule rule;
        final int[][] heights = new int[MOST_RELATIONS][MOST_ROWS];
        final int[][] prices = new int[MOST_RELATIONS][MOST_ROWS];
        private final int[] groupHeights = new int[MOST_ROWS];
        private final int[] groupPrices = new int[MOST_ROWS];
        private int bindingHeight;
        private int bindingPrice;
        private boolean isFalling;

        Costs(RuleBook book, FactList factList, Joiner joiner, Groups groups, Rows rows) {
            this.relations = book.relations;
            this.book = book;
            this.factList = factList;
            this.joiner = joiner;
            this.groups = groups;
            this.rows = rows;
            this.rule = joiner.rule;
        }

        void find(Rows ofRows) {
            rows = ofRows;
            for (int relation = 0; relation < relations.size; relation++) {
                Arrays.fill(heights[relation], NONE);
                Arrays.fill(prices[relation], NONE);
            }
            for (int place = 0; place < factList.size; place++) {
                offer(factList.relations[place], factList.codes[place], 0, factList.prices[place]);
            }
            isFalling = true;
            for (int round = 0; isFalling && round < FAR_OFF; round++) {
                isFalling = false;
                for (int place = 0; place < book.size; place++) {
                    rule = book.rules[place];
                    if (rule.kind != NEVER) {
                        lookAgain();
                    }
                }
            }
        }

        private void lookAgain() {
            joiner.begin(rule, rows, this);
            groups.begin(rule);
            Arrays.fill(groupHeights, 0);
            Arrays.fill(groupPrices, 0);
            joiner.step(0);
            for (int group = 0; group < groups.size; group++) {
                if (groupHeights[group] != NONE) {
                    offer(rule.relation, groups.rowOf(group), groupHeights[group] + 1, groupPrices[group] + 1);
                }
            }
        }

        /** A way to a row, if there is this row, was found to have this height and price. */
        private void offer(int relation, int code, int height, int price) {
            int place = rows.placeOf(relation, code);
            if (place == NONE) {
                return;
            }
            int capped = Math.min(MOST_PRICE, price);
            if (heights[relation][place] == NONE || heights[relation][place] > height) {
                heights[relation][place] = height;
                isFalling = true;
            }
            if (prices[relation][place] == NONE || prices[relation][place] > capped) {
                prices[relation][place] = capped;
                isFalling = true;
            }
        }

        boolean reach(int literal) {
            if (literal < rule.size) {
                return true;
            }
            weigh();
            if (rule.kind == FOLLOWS) {
                if (bindingHeight != NONE) {
                    int code = rule.headCode(joiner.values, rule.columns);
                    offer(rule.relation, code, bindingHeight + 1, bindingPrice + 1);
                }
                return false;
            }
            int group = groups.takeBinding();
            if (group == NONE || groupHeights[group] == NONE) {
                return false;
            }
            boolean isReached = bindingHeight != NONE;
            groupHeights[group] = isReached ? Math.max(groupHeights[group], bindingHeight) : NONE;
            groupPrices[group] = Math.min(MOST_PRICE, groupPrices[group] + bindingPrice);
            return false;
        }

        /** Finds the greatest height and the prices together of the atoms; the height is NONE if one has none. */
        private void weigh() {
            bindingHeight = 0;
            bindingPrice = 0;
            for (int literal = 0; literal < rule.size && bindingHeight != NONE; literal++) {
                if (rule.sorts[literal] != Rule.ATOM) {
                    continue;
                }
                int relation = rule.subjects[literal];
                int taken = joiner.places[literal];
                boolean hasOthers = rule.hasAny[literal];
                int end = hasOthers ? rows.sizes[relation] : taken + 1;
                int seen = rule.seenOf(literal, rows.codes[relation][taken]);
                int least = NONE;
                int cheapest = NONE;
                for (int place = hasOthers ? 0 : taken; place < end; place++) {
                    int height = heights[relation][place];
                    if (height != NONE && rule.seenOf(literal, rows.codes[relation][place]) == seen) {
                        int price = prices[relation][place];
                        least = least == NONE ? height : Math.min(least, height);
                        cheapest = cheapest == NONE ? price : Math.min(cheapest, price);
                    }
                }
                bindingHeight = least == NONE ? NONE : Math.max(bindingHeight, least);
                bindingPrice = Math.min(MOST_PRICE, bindingPrice + Math.max(0, cheapest));
            }
        }
    }

    /** Finds the goals that a goal leads to. A goal is one int: its relation, then 7 bits for each column. */
    private static final class GoalSearch extends Visitor {
        private static final int SLOTS = 1024;

        private final Relations relations;
        private final RuleBook book;
        private final Joiner joiner;
        private Rule rule;
        private int size;
        private final int[] found = new int[MOST_GOALS];
        /** The same goals once more, each at a slot that its number leads to, to be found there. */
        private final int[] slots = new int[SLOTS];

        GoalSearch(RuleBook book, Joiner joiner) {
            this.relations = book.relations;
            this.book = book;
            this.joiner = joiner;
            this.rule = joiner.rule;
        }

        static int goalOf(int relation, int a, int b, int c) {
            return relation << 21 | (a + 1) << 14 | (b + 1) << 7 | (c + 1);
        }

        int run(Rows rows, int goal) {
            size = 0;
            Arrays.fill(slots, NONE);
            ask(goal);
            for (int next = 0; next < size && size < MOST_GOALS; next++) {
                for (int place = 0; place < book.size; place++) {
                    rule = book.rules[place];
                    if (rule.kind != NEVER && rule.relation == found[next] >> 21) {
                        joiner.begin(rule, rows, this);
                        if (putIn(found[next])) {
                            joiner.step(0);
                        }
                    }
                }
            }
            return size;
        }

        private boolean putIn(int goal) {
            boolean isLastOut = rule.kind != FOLLOWS || relations.kinds[rule.relation] != PLAIN;
            int end = isLastOut ? rule.columns - 1 : rule.columns;
            for (int column = 0; column < end; column++) {
                int number = (goal >> (14 - 7 * column) & 127) - 1;
                if (number != ANY && !joiner.putIn(rule.head[column], number)) {
                    return false;
                }
            }
            return true;
        }

        boolean reach(int literal) {
            if (literal >= rule.size) {
                return false;
            }
            if (rule.isAtom(literal)) {
                ask(goalOf(rule.subjects[literal], askedAt(literal, 0), askedAt(literal, 1), askedAt(literal, 2)));
            }
            if (size >= MOST_GOALS) {
                joiner.stop();
            }
            return literal < rule.lastAtom;
        }

        private int askedAt(int literal, int column) {
            int relation = rule.subjects[literal];
            if (column >= rule.widths[literal]) {
                return 0;
            }
            boolean isValue = relations.kinds[relation] != PLAIN && column == rule.widths[literal] - 1;
            return isValue ? ANY : rule.numberOf(rule.terms[literal * MOST_COLUMNS + column], joiner.values);
        }

        private void ask(int goal) {
            int slot = (goal ^ goal >> 7 ^ goal >> 14) & (SLOTS - 1);
            for (int tried = 0; tried < SLOTS && slots[slot] != NONE; tried++) {
                if (slots[slot] == goal) {
                    return;
                }
                slot = slot + 1 & (SLOTS - 1);
            }
            if (size < MOST_GOALS) {
                slots[slot] = goal;
                found[size] = goal;
                size++;
            }
        }
    }
}
