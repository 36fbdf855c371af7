/**
 * The bounds of each argument of each call, on both sides, and which exception comes first if several apply: "the one that
 * is documented first is thrown". "A method that throws an exception changes nothing, the reason neither."
 */
public final class ArgumentsEdgeTest {
    private static final int B = ClubBase.BLANK;
    private static final int LOW = Integer.MIN_VALUE, HIGH = Integer.MAX_VALUE;
    private static final Class<IndexOutOfBoundsException> INDEX = Check.INDEX;
    private static final Class<IllegalArgumentException> ARGUMENT = Check.ARGUMENT;
    private static final Class<IllegalStateException> STATE = Check.STATE;

    /** Club.all() has the tables 0 to 2 with 4, 4 and 2 columns and 3, 4 and 1 rows, the questions 0 to 3, act 0 and rule 0. */
    private static final Check.Calls ALL = Club::all;
    private static final int[] NO_TABLE = {LOW, -1, 3, 4, 10, HIGH};
    private static final int[] NO_COLUMN = {LOW, -1, 4, 5, 6, HIGH};
    private static final int[] NO_ROW = {LOW, -1, 4, 29, 30, 31, HIGH};
    private static final int[] NO_VALUE = {LOW, -1000001, -999999, -10000, 10000, 1000000, HIGH};
    private static final int[] VALUES = {-9999, 9999, B, 0};
    private static final int[] NO_REMOVAL = {LOW, -1, 3, HIGH};
    private static final int[] NO_FORMULA = {LOW, -1, 5, HIGH};
    private static final int[] NO_RELATION = {LOW, -1, 4, HIGH};
    private static final int[] NO_SOURCE = {LOW, -10, -1, 3, 4, 9, 14, 17, 18, HIGH};
    private static final int[] NO_QUESTION = {LOW, -1, 4, 7, 8, 10, HIGH};
    private static final int[] NO_ACT = {LOW, -1, 1, 3, 4, HIGH};

    private static void sixColumns(ClubBase b) {
        Club.all(b);
        b.addNumber(0, 0, 9);
        b.addLink(0, 0, ClubBase.BLANKS);
        b.put(0, 0, 0, 10);
    }

    private static void eightRules(ClubBase b) {
        Club.all(b);
        for (int rule = 1; rule < 8; rule++) b.addRule(rule % 3, 0, ClubBase.BOTH, 0, 0);
        b.put(0, 0, 0, 10);
    }

    private static void eightQuestions(ClubBase b) {
        Club.all(b);
        for (int q = 4; q < 8; q++) b.ask(2, -1);
    }

    private static void sixConditions(ClubBase b) {
        Club.all(b);
        for (int n = 0; n < 6; n++) b.condition(0, 2, 1, ClubBase.LEAST, n);
    }

    private static void sixSteps(ClubBase b) {
        Club.all(b);
        for (int n = 1; n < 6; n++) b.stepAdd(0, 0);
    }

    private static void thirtyRows(ClubBase b) {
        Club.all(b);
        for (int r = 1; r < 30; r++) Club.enter(b, 2);
        b.type(0, 1);
        b.put(0, 0, 0, 10);
    }

    static void addTable() {
        Check.wrong("a fifth", STATE, x -> { Club.all(x); x.addTable(); x.put(0, 0, 0, 10); }, ClubBase::addTable);
    }

    static void addNumber() {
        Check.wrongs("table", INDEX, ALL, (x, v) -> x.addNumber(v, 0, 9), NO_TABLE);
        Check.wrongs("least", ARGUMENT, ALL, (x, v) -> x.addNumber(0, v, 9999), LOW, B, -10000, 10000, HIGH);
        Check.wrongs("most", ARGUMENT, ALL, (x, v) -> x.addNumber(0, -9999, v), LOW, B, -10000, 10000, HIGH);
        Check.wrongs("least above most", ARGUMENT, ALL, (x, v) -> x.addNumber(0, v, 5), 6, 9999);
        Check.wrongs("most below least", ARGUMENT, ALL, (x, v) -> x.addNumber(0, 5, v), 4, -9999);
        Check.fine("least", ALL, (x, v) -> x.addNumber(0, v, 9999), -9999, 0, 9999);
        Check.fine("most", ALL, (x, v) -> x.addNumber(0, -9999, v), -9999, 0, 9999);
        Check.wrong("table first", INDEX, ArgumentsEdgeTest::sixColumns, x -> x.addNumber(3, 5, 4));
        Check.wrong("range, then place", ARGUMENT, ArgumentsEdgeTest::sixColumns, x -> x.addNumber(0, 5, 4));
        Check.wrong("place", STATE, ArgumentsEdgeTest::sixColumns, x -> x.addNumber(0, 4, 4));
        Check.fine("another table", ArgumentsEdgeTest::sixColumns, (x, v) -> x.addNumber(v, 4, 4), 1, 2);
    }

    static void addLink() {
        Check.wrongs("table", INDEX, ALL, (x, v) -> x.addLink(v, 0, 0), NO_TABLE);
        Check.wrongs("target", INDEX, ALL, (x, v) -> x.addLink(0, v, 0), NO_TABLE);
        Check.wrongs("removal", ARGUMENT, ALL, (x, v) -> x.addLink(0, 0, v), NO_REMOVAL);
        Check.fine("target", ALL, (x, v) -> x.addLink(0, v, 0), 0, 1, 2);
        Check.fine("removal", ALL, (x, v) -> x.addLink(0, 0, v), 0, 1, 2);
        Check.wrong("target first", INDEX, ArgumentsEdgeTest::sixColumns, x -> x.addLink(0, 3, 3));
        Check.wrong("table first", INDEX, ArgumentsEdgeTest::sixColumns, x -> x.addLink(3, 0, 3));
        Check.wrong("removal, then place", ARGUMENT, ArgumentsEdgeTest::sixColumns, x -> x.addLink(0, 0, 3));
        Check.wrong("place", STATE, ArgumentsEdgeTest::sixColumns, x -> x.addLink(0, 0, 2));
    }

    /** Arguments of formulas as both calls that take them have them. */
    private interface Formula {
        void on(ClubBase b, int formula, int one, int two, int other);
    }

    /** Of table 0, which has four columns; the link 0 of table 1 leads to it. */
    private static void formulas(Formula f) {
        Check.wrongs("formula", ARGUMENT, ALL, (x, v) -> f.on(x, v, 0, 0, 0), NO_FORMULA);
        Check.wrongs("formula, nothing else matters", ARGUMENT, ALL, (x, v) -> f.on(x, v, LOW, HIGH, -1), NO_FORMULA);
        for (int formula = ClubBase.ADD; formula <= ClubBase.TIMES; formula++) {
            int sort = formula;
            Check.wrongs("ADD, TIMES one", INDEX, ALL, (x, v) -> f.on(x, sort, v, 0, 0), NO_COLUMN);
            Check.wrongs("ADD, TIMES two", INDEX, ALL, (x, v) -> f.on(x, sort, 0, v, 0), NO_COLUMN);
            Check.fine("ADD, TIMES one", ALL, (x, v) -> f.on(x, sort, v, 0, 0), 0, 3);
            Check.fine("ADD, TIMES two", ALL, (x, v) -> f.on(x, sort, 0, v, 0), 0, 3);
            Check.fine("ADD, TIMES other does not matter", ALL, (x, v) -> f.on(x, sort, 0, 1, v), LOW, -1, 0, 3, 4, HIGH);
        }
        for (int formula = ClubBase.TOTAL; formula <= ClubBase.COUNT; formula++) {
            int sort = formula;
            Check.wrongs("TOTAL, COUNT other", INDEX, ALL, (x, v) -> f.on(x, sort, 0, 1, v), NO_TABLE);
            Check.wrongs("TOTAL, COUNT one", INDEX, ALL, (x, v) -> f.on(x, sort, v, 1, 1), NO_COLUMN);
            Check.wrongs("TOTAL, COUNT one, no link to it", ARGUMENT, ALL, (x, v) -> f.on(x, sort, v, 1, 1), 1, 2, 3);
            Check.wrong("TOTAL, COUNT, a link of another table", ARGUMENT, ALL, x -> f.on(x, sort, 0, 1, 2));
            Check.wrong("TOTAL, COUNT, no link of its own", ARGUMENT, ALL, x -> f.on(x, sort, 0, 1, 0));
        }
        Check.wrongs("TOTAL two", INDEX, ALL, (x, v) -> f.on(x, ClubBase.TOTAL, 0, v, 1), NO_COLUMN);
        Check.wrongs("TOTAL two ahead of the link", INDEX, ALL, (x, v) -> f.on(x, ClubBase.TOTAL, 1, v, 1), NO_COLUMN);
        Check.fine("TOTAL two", ALL, (x, v) -> f.on(x, ClubBase.TOTAL, 0, v, 1), 0, 1, 2, 3);
        Check.fine("COUNT two does not matter", ALL, (x, v) -> f.on(x, ClubBase.COUNT, 0, v, 1), LOW, -1, 0, 3, 4, 6, HIGH);
    }

    /** The link 0 of table 1 leads to table 0; column 4 is added to that, so that the tables differ in width. */
    private static void looks(Formula f) {
        Check.Calls wider = x -> { Club.all(x); x.addNumber(0, 0, 9); x.addLink(1, 2, 0); x.put(0, 0, 0, 10); };
        Check.wrongs("LOOK one", INDEX, wider, (x, v) -> f.on(x, ClubBase.LOOK, v, 0, 0), LOW, -1, 5, 6, HIGH);
        Check.wrongs("LOOK one, no link", ARGUMENT, wider, (x, v) -> f.on(x, ClubBase.LOOK, v, 0, 0), 1, 3);
        Check.wrongs("LOOK two", INDEX, wider, (x, v) -> f.on(x, ClubBase.LOOK, 0, v, 0), LOW, -1, 5, 6, HIGH);
        Check.wrongs("LOOK two of a table with two columns", INDEX, wider, (x, v) -> f.on(x, ClubBase.LOOK, 4, v, 0), LOW, -1, 2, 3, HIGH);
        Check.fine("LOOK two", wider, (x, v) -> f.on(x, ClubBase.LOOK, 0, v, 0), 0, 1, 4);
        Check.fine("LOOK two of a table with two columns", wider, (x, v) -> f.on(x, ClubBase.LOOK, 4, v, 0), 0, 1);
        Check.fine("LOOK other does not matter", wider, (x, v) -> f.on(x, ClubBase.LOOK, 0, 0, v), LOW, -1, 3, 4, HIGH);
    }

    static void addReckoned() {
        formulas((x, formula, one, two, other) -> x.addReckoned(0, formula, one, two, other));
        looks((x, formula, one, two, other) -> x.addReckoned(1, formula, one, two, other));
        Check.wrongs("table", INDEX, ALL, (x, v) -> x.addReckoned(v, ClubBase.ADD, 0, 0, 0), NO_TABLE);
        Check.wrong("table first", INDEX, ALL, x -> x.addReckoned(3, 5, 0, 0, 0));
        Check.wrong("the new column is not there yet", INDEX, ALL, x -> x.addReckoned(0, ClubBase.ADD, 4, 4, 0));
        Check.Calls six = ArgumentsEdgeTest::sixColumns;
        Check.wrong("formula, then place", ARGUMENT, six, x -> x.addReckoned(0, 5, 0, 0, 0));
        Check.wrong("column, then place", INDEX, six, x -> x.addReckoned(0, ClubBase.ADD, 0, 6, 0));
        Check.wrong("link, then place", ARGUMENT, six, x -> x.addReckoned(0, ClubBase.LOOK, 4, 0, 0));
        Check.wrong("dropped, then place", ARGUMENT, x -> { sixColumns(x); x.drop(0, 4); x.put(0, 0, 0, 10); }, x -> x.addReckoned(0, ClubBase.ADD, 4, 0, 0));
        Check.wrong("place", STATE, six, x -> x.addReckoned(0, ClubBase.LOOK, 5, 0, 0));
    }

    static void reckonAnew() {
        formulas((x, formula, one, two, other) -> x.reckonAnew(0, 3, formula, one, two, other));
        looks((x, formula, one, two, other) -> x.reckonAnew(1, 3, formula, one, two, other));
        Check.wrongs("table", INDEX, ALL, (x, v) -> x.reckonAnew(v, 0, ClubBase.ADD, 0, 0, 0), NO_TABLE);
        Check.wrongs("column", INDEX, ALL, (x, v) -> x.reckonAnew(0, v, ClubBase.ADD, 0, 0, 0), NO_COLUMN);
        Check.wrongs("column, not reckoned", ARGUMENT, ALL, (x, v) -> x.reckonAnew(1, v, ClubBase.ADD, 0, 0, 0), 0, 1, 2);
        Check.wrong("column ahead of formula", INDEX, ALL, x -> x.reckonAnew(0, 4, 5, 0, 0, 0));
        Check.wrong("what matters, then not reckoned", INDEX, ALL, x -> x.reckonAnew(0, 0, ClubBase.ADD, 0, 4, 0));
        Check.wrong("other, then not reckoned", INDEX, ALL, x -> x.reckonAnew(0, 0, ClubBase.TOTAL, 0, 0, 3));
        Check.wrong("what matters, then dropped", INDEX, x -> { sixColumns(x); x.drop(0, 4); }, x -> x.reckonAnew(0, 3, ClubBase.ADD, 4, 6, 0));
    }

    static void needAndSingle() {
        Check.wrongs("need table", INDEX, ALL, (x, v) -> x.need(v, 0, false), NO_TABLE);
        Check.wrongs("need column", INDEX, ALL, (x, v) -> x.need(0, v, true), NO_COLUMN);
        Check.wrongs("need column, reckoned", ARGUMENT, ALL, (x, v) -> x.need(0, v, true), 2, 3);
        Check.fine("need", ALL, (x, v) -> x.need(1, v, true), 0, 1, 2);
        Check.wrongs("single table", INDEX, ALL, (x, v) -> x.single(v, 0, false), NO_TABLE);
        Check.wrongs("single column", INDEX, ALL, (x, v) -> x.single(0, v, true), NO_COLUMN);
        Check.wrongs("single column, reckoned", ARGUMENT, ALL, (x, v) -> x.single(0, v, true), 2, 3);
        Check.fine("single", ALL, (x, v) -> x.single(1, v, true), 0, 1, 2);
    }

    static void wouldLoseAndNarrow() {
        Check.wrongs("wouldLose table", INDEX, ALL, (x, v) -> x.wouldLose(v, 0, 5, 4), NO_TABLE);
        Check.wrongs("wouldLose column", INDEX, ALL, (x, v) -> x.wouldLose(0, v, 5, 4), NO_COLUMN);
        Check.wrongs("wouldLose column, no number", ARGUMENT, ALL, (x, v) -> x.wouldLose(1, v, 0, 9), 0, 2, 3);
        Check.wrongs("wouldLose least", ARGUMENT, ALL, (x, v) -> x.wouldLose(0, 0, v, 9999), LOW, B, -10000, 10000, HIGH);
        Check.wrongs("wouldLose most", ARGUMENT, ALL, (x, v) -> x.wouldLose(0, 0, -9999, v), LOW, B, -10000, 10000, HIGH);
        Check.wrong("wouldLose least above most", ARGUMENT, ALL, x -> x.wouldLose(0, 0, 5, 4));
        Check.fine("wouldLose", ALL, (x, v) -> x.wouldLose(0, 0, v, v), -9999, 0, 9999);
        Check.wrongs("narrow table", INDEX, ALL, (x, v) -> x.narrow(v, 0, 5, 4), NO_TABLE);
        Check.wrongs("narrow column", INDEX, ALL, (x, v) -> x.narrow(0, v, 5, 4), NO_COLUMN);
        Check.wrongs("narrow column, no number", ARGUMENT, ALL, (x, v) -> x.narrow(1, v, 0, 9), 0, 2, 3);
        Check.wrongs("narrow least", ARGUMENT, ALL, (x, v) -> x.narrow(0, 0, v, 9999), LOW, B, -10000, 10000, HIGH);
        Check.wrongs("narrow most", ARGUMENT, ALL, (x, v) -> x.narrow(0, 0, -9999, v), LOW, B, -10000, 10000, HIGH);
        Check.wrong("narrow least above most", ARGUMENT, ALL, x -> x.narrow(0, 0, 5, 4));
        Check.fine("narrow", ALL, (x, v) -> x.narrow(0, 0, v, v), -9999, 0, 9999);
    }

    static void wouldLoseAllAndDrop() {
        Check.wrongs("wouldLoseAll table", INDEX, ALL, (x, v) -> x.wouldLoseAll(v, 0), NO_TABLE);
        Check.wrongs("wouldLoseAll column", INDEX, ALL, (x, v) -> x.wouldLoseAll(0, v), NO_COLUMN);
        Check.fine("wouldLoseAll", ALL, (x, v) -> x.wouldLoseAll(0, v), 0, 1, 2, 3);
        Check.wrongs("drop table", INDEX, ALL, (x, v) -> x.drop(v, 0), NO_TABLE);
        Check.wrongs("drop column", INDEX, ALL, (x, v) -> x.drop(0, v), NO_COLUMN);
        Check.wrong("drop twice", ARGUMENT, x -> { Club.all(x); x.drop(2, 1); }, x -> x.drop(2, 1));
        Check.fine("drop", ALL, (x, v) -> x.drop(0, v), 0, 1, 2, 3);
    }

    static void setRemoval() {
        Check.wrongs("table", INDEX, ALL, (x, v) -> x.setRemoval(v, 0, 0), NO_TABLE);
        Check.wrongs("column", INDEX, ALL, (x, v) -> x.setRemoval(1, v, 0), NO_COLUMN);
        Check.wrongs("column, no link", ARGUMENT, ALL, (x, v) -> x.setRemoval(1, v, 0), 1, 3);
        Check.wrongs("removal", ARGUMENT, ALL, (x, v) -> x.setRemoval(1, 2, v), NO_REMOVAL);
        Check.wrong("column ahead of removal", INDEX, ALL, x -> x.setRemoval(1, 4, 3));
        Check.fine("removal", ALL, (x, v) -> x.setRemoval(1, 2, v), 0, 1, 2);
    }

    static void addRule() {
        Check.wrongs("table", INDEX, ALL, (x, v) -> x.addRule(v, 0, 3, 0, 0), NO_TABLE);
        Check.wrongs("one", INDEX, ALL, (x, v) -> x.addRule(0, v, 3, 0, 0), NO_COLUMN);
        Check.wrongs("other", INDEX, ALL, (x, v) -> x.addRule(0, 0, 3, v, 0), NO_COLUMN);
        Check.wrongs("relation", ARGUMENT, ALL, (x, v) -> x.addRule(0, 0, v, 0, 0), NO_RELATION);
        for (int relation = 0; relation < 4; relation++) {
            int sort = relation;
            Check.wrongs("more", ARGUMENT, ALL, (x, v) -> x.addRule(0, 0, sort, 0, v), LOW, B, -10000, 10000, HIGH);
            Check.fine("more", ALL, (x, v) -> x.addRule(0, 0, sort, 0, v), -9999, 0, 9999);
        }
        Check.Calls eight = ArgumentsEdgeTest::eightRules;
        Check.wrong("table first", INDEX, eight, x -> x.addRule(3, 0, 4, 0, 10000));
        Check.wrong("one first", INDEX, eight, x -> x.addRule(0, 4, 4, 0, 10000));
        Check.wrong("other first", INDEX, eight, x -> x.addRule(0, 0, 4, 4, 10000));
        Check.wrong("relation, then place", ARGUMENT, eight, x -> x.addRule(0, 0, 4, 0, 0));
        Check.wrong("more, then place", ARGUMENT, eight, x -> x.addRule(0, 0, 3, 0, 10000));
        Check.Calls dropped = x -> { eightRules(x); x.addNumber(0, 0, 9); x.drop(0, 4); x.put(0, 0, 0, 10); };
        Check.wrong("dropped one, then place", ARGUMENT, dropped, x -> x.addRule(0, 4, 3, 0, 0));
        Check.wrong("dropped other, then place", ARGUMENT, dropped, x -> x.addRule(0, 0, 3, 4, 0));
        Check.wrong("place", STATE, dropped, x -> x.addRule(0, 0, 3, 0, 0));
        Check.wrong("place, also if it would be refused", STATE, eight, x -> x.addRule(0, 0, ClubBase.UNLIKE, 0, 0));
    }

    static void dropRuleAndOrder() {
        Check.wrongs("dropRule", INDEX, ALL, (x, v) -> x.dropRule(v), LOW, -1, 1, 7, 8, HIGH);
        Check.wrongs("dropRule of eight", INDEX, ArgumentsEdgeTest::eightRules, (x, v) -> x.dropRule(v), LOW, -1, 8, 9, HIGH);
        Check.fine("dropRule of eight", ArgumentsEdgeTest::eightRules, (x, v) -> x.dropRule(v), 0, 1, 7);
        Check.wrong("dropRule twice", INDEX, x -> { eightRules(x); x.dropRule(7); x.put(0, 0, 0, 10); }, x -> x.dropRule(7));
        Check.wrongs("order", INDEX, ALL, (x, v) -> x.order(v), LOW, -1, 3, 24, 25, HIGH);
        Check.fine("order", ALL, (x, v) -> x.order(v), 0, 1, 2);
    }

    static void type() {
        Check.wrongs("column", ARGUMENT, ALL, (x, v) -> x.type(v, 0), LOW, -1, 6, 7, HIGH);
        Check.wrongs("value", ARGUMENT, ALL, (x, v) -> x.type(0, v), NO_VALUE);
        Check.fine("column", ALL, (x, v) -> x.type(v, 0), 0, 1, 2, 3, 4, 5);
        Check.fine("value", ALL, (x, v) -> x.type(5, v), VALUES);
    }

    static void enter() {
        Check.wrongs("table", INDEX, ALL, (x, v) -> x.enter(v), NO_TABLE);
        Check.wrong("thirty", STATE, ArgumentsEdgeTest::thirtyRows, x -> x.enter(2));
        Check.wrong("thirty, one removed", STATE, x -> { thirtyRows(x); x.remove(2, 29); }, x -> x.enter(2));
        Check.wrong("thirty, also if it would be refused", STATE, x -> { thirtyRows(x); x.type(0, 9); }, x -> x.enter(2));
        Check.fine("another table", ArgumentsEdgeTest::thirtyRows, (x, v) -> x.enter(v), 0, 1);
    }

    static void put() {
        Check.wrongs("table", INDEX, ALL, (x, v) -> x.put(v, 0, 0, 10000), NO_TABLE);
        Check.wrongs("row", INDEX, ALL, (x, v) -> x.put(1, v, 3, 10000), NO_ROW);
        Check.wrongs("column", INDEX, ALL, (x, v) -> x.put(0, 0, v, 10000), NO_COLUMN);
        Check.wrongs("column, not stored", ARGUMENT, ALL, (x, v) -> x.put(0, 0, v, 0), 2, 3);
        Check.wrongs("value", ARGUMENT, ALL, (x, v) -> x.put(0, 0, 0, v), NO_VALUE);
        Check.wrongs("value of a link", ARGUMENT, ALL, (x, v) -> x.put(1, 0, 0, v), NO_VALUE);
        Check.fine("value", ALL, (x, v) -> x.put(0, 0, 0, v), VALUES);
        Check.fine("row", ALL, (x, v) -> x.put(1, v, 0, 0), 0, 1, 2, 3);
    }

    static void removeAndOpenForm() {
        Check.wrongs("remove table", INDEX, ALL, (x, v) -> x.remove(v, 0), NO_TABLE);
        Check.wrongs("remove row", INDEX, ALL, (x, v) -> x.remove(1, v), NO_ROW);
        Check.fine("remove row", ALL, (x, v) -> x.remove(1, v), 0, 1, 2, 3);
        Check.wrongs("openForm table", INDEX, ALL, (x, v) -> x.openForm(v, 0), NO_TABLE);
        Check.wrongs("openForm row", INDEX, ALL, (x, v) -> x.openForm(1, v), NO_ROW);
        Check.fine("openForm row", ALL, (x, v) -> x.openForm(1, v), 0, 1, 2, 3);
    }

    private static void noForm(ClubBase b) {
        Club.design(b);
        Club.rows(b);
        b.put(0, 0, 0, 10);
    }

    static void enterInside() {
        Check.wrongs("table", INDEX, ALL, (x, v) -> x.enterInside(v, 0), NO_TABLE);
        Check.wrongs("column", INDEX, ALL, (x, v) -> x.enterInside(1, v), NO_COLUMN);
        Check.wrongs("column, no such link", ARGUMENT, ALL, (x, v) -> x.enterInside(1, v), 1, 2, 3);
        Check.wrong("column of a table without one", ARGUMENT, ALL, x -> x.enterInside(0, 0));
        Check.wrong("a link to another table", ARGUMENT, ALL, x -> x.enterInside(2, 0));
        Check.fine("column", ALL, (x, v) -> x.enterInside(1, v), 0);
        Check.wrong("no form", STATE, ArgumentsEdgeTest::noForm, x -> x.enterInside(1, 0));
        Check.wrong("no form, no link", STATE, ArgumentsEdgeTest::noForm, x -> x.enterInside(1, 1));
        Check.wrong("column, then no form", INDEX, ArgumentsEdgeTest::noForm, x -> x.enterInside(1, 4));
        Check.wrong("table, then no form", INDEX, ArgumentsEdgeTest::noForm, x -> x.enterInside(3, 0));
        Check.Calls gone = x -> { Club.all(x); x.openForm(0, 2); x.remove(0, 2); x.put(0, 0, 0, 10); };
        Check.wrong("its row is gone", STATE, gone, x -> x.enterInside(1, 0));
        Check.wrong("its row is gone, no link", STATE, gone, x -> x.enterInside(1, 1));
        Check.wrong("column, then its row is gone", INDEX, gone, x -> x.enterInside(1, 4));
        Check.Calls full = x -> { thirtyRows(x); x.openForm(1, 0); };
        Check.wrong("thirty", STATE, full, x -> x.enterInside(2, 0));
        Check.wrong("thirty, no link", STATE, full, x -> x.enterInside(2, 1));
        Check.wrong("column, then thirty", INDEX, full, x -> x.enterInside(2, 2));
    }

    static void choice() {
        Check.wrongs("table", INDEX, ALL, (x, v) -> x.choice(v, 0, 0, -1), NO_TABLE);
        Check.wrongs("row", INDEX, ALL, (x, v) -> x.choice(1, v, 1, -1), NO_ROW);
        Check.wrongs("column", INDEX, ALL, (x, v) -> x.choice(1, 0, v, -1), NO_COLUMN);
        Check.wrongs("column, no link", ARGUMENT, ALL, (x, v) -> x.choice(1, 0, v, 0), 1, 3);
        Check.wrongs("from", ARGUMENT, ALL, (x, v) -> x.choice(1, 0, 0, v), LOW, B, -1);
        Check.fine("from", ALL, (x, v) -> x.choice(1, 0, 0, v), 0, 2, 3, 29, 30, HIGH);
    }

    static void cellIsThereAndRows() {
        Check.wrongs("cell table", INDEX, ALL, (x, v) -> x.cell(v, 0, 0), NO_TABLE);
        Check.wrongs("cell row", INDEX, ALL, (x, v) -> x.cell(1, v, 0), NO_ROW);
        Check.wrongs("cell column", INDEX, ALL, (x, v) -> x.cell(0, 0, v), NO_COLUMN);
        Check.fine("cell", ALL, (x, v) -> x.cell(1, v, v), 0, 1, 2, 3);
        Check.wrongs("isThere table", INDEX, ALL, (x, v) -> x.isThere(v, 0), NO_TABLE);
        Check.fine("isThere any row", ALL, (x, v) -> x.isThere(0, v), LOW, -1, 0, 29, 30, HIGH);
        Check.wrongs("rows table", INDEX, ALL, (x, v) -> x.rows(v), NO_TABLE);
    }

    static void ask() {
        Check.wrongs("source", INDEX, ALL, (x, v) -> x.ask(v, -1), NO_SOURCE);
        Check.wrongs("source, with a join", INDEX, ALL, (x, v) -> x.ask(v, 0), NO_SOURCE);
        Check.wrongs("join", INDEX, ALL, (x, v) -> x.ask(1, v), LOW, -2, 4, 5, 6, HIGH);
        Check.wrongs("join of a question", INDEX, ALL, (x, v) -> x.ask(11, v), LOW, -2, 8, 9, 54, HIGH);
        Check.wrongs("join of groups", INDEX, ALL, (x, v) -> x.ask(12, v), LOW, -2, 5, 6, HIGH);
        Check.wrongs("join, no link", ARGUMENT, ALL, (x, v) -> x.ask(1, v), 1, 3);
        Check.wrongs("join of a question, no link", ARGUMENT, ALL, (x, v) -> x.ask(11, v), 1, 3, 4, 5, 6, 7);
        Check.wrongs("join of groups, from no link", ARGUMENT, ALL, (x, v) -> x.ask(12, v), 0, 1, 2, 3, 4);
        Check.wrongs("a cross", ARGUMENT, ALL, (x, v) -> x.ask(13, v), -1, 0, 1);
        Check.fine("join", ALL, (x, v) -> x.ask(1, v), -1, 0, 2);
        Check.fine("join of a question", ALL, (x, v) -> x.ask(11, v), -1, 0, 2);
        Check.fine("source", ALL, (x, v) -> x.ask(v, -1), 0, 1, 2, 10, 11, 12);
        Check.Calls eight = ArgumentsEdgeTest::eightQuestions;
        Check.wrongs("source first", INDEX, eight, (x, v) -> x.ask(v, -1), 3, 9, 18);
        Check.wrong("column, then place", INDEX, eight, x -> x.ask(1, 4));
        Check.wrong("cross, then place", ARGUMENT, eight, x -> x.ask(13, -1));
        Check.wrong("link, then place", ARGUMENT, eight, x -> x.ask(1, 1));
        Check.wrongs("place", STATE, eight, (x, v) -> x.ask(1, v), -1, 0);
    }

    static void condition() {
        Check.wrongs("question", INDEX, ALL, (x, v) -> x.condition(v, 0, 0, 0, 0), NO_QUESTION);
        Check.wrongs("column", INDEX, ALL, (x, v) -> x.condition(0, 0, v, 0, 0), NO_COLUMN);
        Check.wrongs("joined column", INDEX, ALL, (x, v) -> x.condition(1, 0, v, 0, 0), LOW, -1, 8, 54, HIGH);
        Check.wrongs("line", ARGUMENT, ALL, (x, v) -> x.condition(0, v, 0, 0, 0), LOW, -1, 3, HIGH);
        Check.wrongs("relation", ARGUMENT, ALL, (x, v) -> x.condition(0, 0, 0, v, 0), NO_RELATION);
        for (int relation = 0; relation < 4; relation++) {
            int sort = relation;
            Check.wrongs("value", ARGUMENT, ALL, (x, v) -> x.condition(0, 0, 0, sort, v), LOW, -1000001, B, 1000000, HIGH);
            Check.fine("value", ALL, (x, v) -> x.condition(0, 0, 0, sort, v), -999999, 0, 999999);
        }
        Check.wrongs("not plain", ARGUMENT, ALL, (x, v) -> x.condition(v, 0, 0, 0, 0), 2, 3);
        Check.wrongs("column, then not plain", INDEX, ALL, (x, v) -> x.condition(v, 0, 5, 0, 0), 2, 3);
        Check.fine("line", ALL, (x, v) -> x.condition(0, v, 0, 0, 0), 0, 1, 2);
        Check.fine("joined column", ALL, (x, v) -> x.condition(1, 0, v, 0, 0), 0, 4, 7);
        Check.Calls six = ArgumentsEdgeTest::sixConditions;
        Check.wrong("column, then place", INDEX, six, x -> x.condition(0, 3, 4, 4, B));
        Check.wrong("line, then place", ARGUMENT, six, x -> x.condition(0, 3, 0, 0, 0));
        Check.wrong("relation, then place", ARGUMENT, six, x -> x.condition(0, 0, 0, 4, 0));
        Check.wrong("value, then place", ARGUMENT, six, x -> x.condition(0, 0, 0, 0, B));
        Check.wrongs("place", STATE, six, (x, v) -> x.condition(0, v, 0, 0, 0), 0, 1, 2);
        Check.fine("another question", six, (x, v) -> x.condition(v, 0, 0, 0, 0), 1);
    }

    static void askGroups() {
        Check.wrongs("source", INDEX, ALL, (x, v) -> x.askGroups(v, 0, 0), NO_SOURCE);
        Check.wrongs("key", INDEX, ALL, (x, v) -> x.askGroups(1, v, 0), NO_COLUMN);
        Check.wrongs("value", INDEX, ALL, (x, v) -> x.askGroups(1, 0, v), NO_COLUMN);
        Check.wrongs("key of a question", INDEX, ALL, (x, v) -> x.askGroups(11, v, 0), LOW, -1, 8, 54, HIGH);
        Check.wrongs("value of groups", INDEX, ALL, (x, v) -> x.askGroups(12, 0, v), LOW, -1, 5, 6, HIGH);
        Check.wrong("a cross", ARGUMENT, ALL, x -> x.askGroups(13, 0, 0));
        Check.fine("key and value", ALL, (x, v) -> x.askGroups(11, v, 7 - v), 0, 3, 7);
        Check.fine("of groups", ALL, (x, v) -> x.askGroups(12, v, 4 - v), 0, 4);
        Check.Calls eight = ArgumentsEdgeTest::eightQuestions;
        Check.wrong("source, then place", INDEX, eight, x -> x.askGroups(3, 0, 0));
        Check.wrong("key, then place", INDEX, eight, x -> x.askGroups(1, 4, 0));
        Check.wrong("cross, then place", ARGUMENT, eight, x -> x.askGroups(13, 0, 0));
        Check.wrong("place", STATE, eight, x -> x.askGroups(1, 0, 0));
    }

    static void askCross() {
        Check.wrongs("source", INDEX, ALL, (x, v) -> x.askCross(v, 0, 0, 0), NO_SOURCE);
        Check.wrongs("first", INDEX, ALL, (x, v) -> x.askCross(1, v, 0, 0), NO_COLUMN);
        Check.wrongs("second", INDEX, ALL, (x, v) -> x.askCross(1, 0, v, 0), NO_COLUMN);
        Check.wrongs("value", INDEX, ALL, (x, v) -> x.askCross(1, 0, 0, v), NO_COLUMN);
        Check.wrongs("second of a question", INDEX, ALL, (x, v) -> x.askCross(11, 0, v, 0), LOW, -1, 8, 54, HIGH);
        Check.wrongs("value of groups", INDEX, ALL, (x, v) -> x.askCross(12, 0, 0, v), LOW, -1, 5, 6, HIGH);
        Check.wrong("a cross", ARGUMENT, ALL, x -> x.askCross(13, 0, 0, 0));
        Check.fine("first, second and value", ALL, (x, v) -> x.askCross(11, v, 7 - v, v), 0, 3, 7);
        Check.Calls eight = ArgumentsEdgeTest::eightQuestions;
        Check.wrong("source, then place", INDEX, eight, x -> x.askCross(18, 0, 0, 0));
        Check.wrong("value, then place", INDEX, eight, x -> x.askCross(1, 0, 0, 4));
        Check.wrong("cross, then place", ARGUMENT, eight, x -> x.askCross(13, 0, 0, 0));
        Check.wrong("place", STATE, eight, x -> x.askCross(1, 0, 0, 0));
    }

    static void answersAndColumns() {
        Check.wrongs("answers", INDEX, ALL, (x, v) -> x.answers(v), NO_QUESTION);
        Check.wrongs("columns", INDEX, ALL, (x, v) -> x.columns(v), NO_QUESTION);
        Check.wrongs("answers of eight", INDEX, ArgumentsEdgeTest::eightQuestions, (x, v) -> x.answers(v), LOW, -1, 8, 10, HIGH);
        Check.fine("answers of eight", ArgumentsEdgeTest::eightQuestions, (x, v) -> x.answers(v), 0, 7);
        Check.fine("columns of eight", ArgumentsEdgeTest::eightQuestions, (x, v) -> x.columns(v), 0, 7);
    }

    static void answerTargetAndWrite() {
        Check.wrongs("answer question", INDEX, ALL, (x, v) -> x.answer(v, 0, 0), NO_QUESTION);
        Check.wrongs("answer answer", INDEX, ALL, (x, v) -> x.answer(0, v, 0), NO_ROW);
        Check.wrongs("answer column", INDEX, ALL, (x, v) -> x.answer(0, 0, v), NO_COLUMN);
        Check.wrongs("answer of groups", INDEX, ALL, (x, v) -> x.answer(2, v, 0), LOW, -1, 2, 30, HIGH);
        Check.wrongs("column of groups", INDEX, ALL, (x, v) -> x.answer(2, 0, v), LOW, -1, 5, HIGH);
        Check.wrongs("column of a cross", INDEX, ALL, (x, v) -> x.answer(3, 0, v), LOW, -1, 2, 31, HIGH);
        Check.wrongs("target question", INDEX, ALL, (x, v) -> x.target(v, 0, 0), NO_QUESTION);
        Check.wrongs("target answer", INDEX, ALL, (x, v) -> x.target(0, v, 0), NO_ROW);
        Check.wrongs("target column", INDEX, ALL, (x, v) -> x.target(0, 0, v), NO_COLUMN);
        Check.wrongs("target column of a cross", INDEX, ALL, (x, v) -> x.target(3, 0, v), LOW, -1, 2, 31, HIGH);
        Check.wrongs("write question", INDEX, ALL, (x, v) -> x.write(v, 0, 0, 10000), NO_QUESTION);
        Check.wrongs("write answer", INDEX, ALL, (x, v) -> x.write(0, v, 0, 10000), NO_ROW);
        Check.wrongs("write column", INDEX, ALL, (x, v) -> x.write(0, 0, v, 10000), NO_COLUMN);
        Check.wrongs("write value", ARGUMENT, ALL, (x, v) -> x.write(0, 0, 1, v), NO_VALUE);
        Check.wrongs("write value, unwritable", ARGUMENT, ALL, (x, v) -> x.write(2, 0, 0, v), NO_VALUE);
        Check.fine("write value", ALL, (x, v) -> x.write(0, 0, 1, v), VALUES);
        Check.fine("write value, unwritable", ALL, (x, v) -> x.write(2, 0, 0, v), VALUES);
        Check.fine("answer", ALL, (x, v) -> x.answer(0, v, v), 0, 3);
        Check.fine("target", ALL, (x, v) -> x.target(0, v, v), 0, 3);
    }

    /** Question 3 has the columns 0 and 1 in Club.all(), as all seats are 4. */
    static void keyOf() {
        Check.wrongs("question", INDEX, ALL, (x, v) -> x.keyOf(v, 1), NO_QUESTION);
        Check.wrongs("column", INDEX, ALL, (x, v) -> x.keyOf(3, v), LOW, -1, 0, 2, 3, 31, HIGH);
        Check.wrongs("column of a plain one", INDEX, ALL, (x, v) -> x.keyOf(0, v), LOW, -1, 0, 4, HIGH);
        Check.wrongs("column of groups", INDEX, ALL, (x, v) -> x.keyOf(2, v), LOW, -1, 0, 5, HIGH);
        Check.wrongs("a plain one", ARGUMENT, ALL, (x, v) -> x.keyOf(0, v), 1, 2, 3);
        Check.wrongs("groups", ARGUMENT, ALL, (x, v) -> x.keyOf(2, v), 1, 4);
        Check.fine("column", ALL, (x, v) -> x.keyOf(3, v), 1);
    }

    static void addAct() {
        Check.wrong("a fifth", STATE, x -> { Club.all(x); for (int a = 1; a < 4; a++) x.addAct(); }, ClubBase::addAct);
    }

    static void stepPut() {
        Check.wrongs("act", INDEX, ALL, (x, v) -> x.stepPut(v, 0, 0, 0), NO_ACT);
        Check.wrongs("question", INDEX, ALL, (x, v) -> x.stepPut(0, v, 0, 0), NO_QUESTION);
        Check.wrongs("column", INDEX, ALL, (x, v) -> x.stepPut(0, 0, v, 0), NO_COLUMN);
        Check.wrongs("not plain", ARGUMENT, ALL, (x, v) -> x.stepPut(0, v, 0, 0), 2, 3);
        Check.wrongs("column, then not plain", INDEX, ALL, (x, v) -> x.stepPut(0, v, 5, 0), 2, 3);
        Check.wrongs("value", ARGUMENT, ALL, (x, v) -> x.stepPut(0, 0, 0, v), NO_VALUE);
        Check.wrong("column, then value", INDEX, ALL, x -> x.stepPut(0, 0, 4, 10000));
        Check.fine("value", ALL, (x, v) -> x.stepPut(0, 0, 0, v), VALUES);
        Check.fine("column", ALL, (x, v) -> x.stepPut(0, 1, v, 0), 0, 7);
        Check.Calls six = ArgumentsEdgeTest::sixSteps;
        Check.wrong("act, then place", INDEX, six, x -> x.stepPut(1, 0, 0, 0));
        Check.wrong("question, then place", INDEX, six, x -> x.stepPut(0, 4, 0, 0));
        Check.wrong("column, then place", INDEX, six, x -> x.stepPut(0, 0, 4, 0));
        Check.wrong("not plain, then place", ARGUMENT, six, x -> x.stepPut(0, 2, 0, 0));
        Check.wrong("value, then place", ARGUMENT, six, x -> x.stepPut(0, 0, 0, 10000));
        Check.wrong("place", STATE, six, x -> x.stepPut(0, 0, 0, 0));
    }

    static void stepAdd() {
        Check.wrongs("act", INDEX, ALL, (x, v) -> x.stepAdd(v, 0), NO_ACT);
        Check.wrongs("table", INDEX, ALL, (x, v) -> x.stepAdd(0, v), NO_TABLE);
        Check.fine("table", ALL, (x, v) -> x.stepAdd(0, v), 0, 1, 2);
        Check.fine("a full table", ArgumentsEdgeTest::thirtyRows, (x, v) -> x.stepAdd(0, v), 2);
        Check.wrong("act, then place", INDEX, ArgumentsEdgeTest::sixSteps, x -> x.stepAdd(1, 0));
        Check.wrong("table, then place", INDEX, ArgumentsEdgeTest::sixSteps, x -> x.stepAdd(0, 3));
        Check.wrong("place", STATE, ArgumentsEdgeTest::sixSteps, x -> x.stepAdd(0, 0));
    }

    static void stepRemove() {
        Check.wrongs("act", INDEX, ALL, (x, v) -> x.stepRemove(v, 0, 0), NO_ACT);
        Check.wrongs("question", INDEX, ALL, (x, v) -> x.stepRemove(0, v, 0), NO_QUESTION);
        Check.wrongs("column", INDEX, ALL, (x, v) -> x.stepRemove(0, 0, v), NO_COLUMN);
        Check.wrongs("not plain", ARGUMENT, ALL, (x, v) -> x.stepRemove(0, v, 0), 2, 3);
        Check.wrongs("column, then not plain", INDEX, ALL, (x, v) -> x.stepRemove(0, v, 5), 2, 3);
        Check.fine("column", ALL, (x, v) -> x.stepRemove(0, 1, v), 0, 3, 7);
        Check.wrong("question, then place", INDEX, ArgumentsEdgeTest::sixSteps, x -> x.stepRemove(0, 4, 0));
        Check.wrong("not plain, then place", ARGUMENT, ArgumentsEdgeTest::sixSteps, x -> x.stepRemove(0, 2, 0));
        Check.wrong("place", STATE, ArgumentsEdgeTest::sixSteps, x -> x.stepRemove(0, 0, 0));
    }

    static void stepIf() {
        Check.wrongs("act", INDEX, ALL, (x, v) -> x.stepIf(v, 0, 0), NO_ACT);
        Check.wrongs("question", INDEX, ALL, (x, v) -> x.stepIf(0, v, 0), NO_QUESTION);
        Check.wrongs("skip", ARGUMENT, ALL, (x, v) -> x.stepIf(0, 0, v), LOW, -1, 0, 6, HIGH);
        Check.fine("skip", ALL, (x, v) -> x.stepIf(0, 0, v), 1, 2, 3, 4, 5);
        Check.fine("any question", ALL, (x, v) -> x.stepIf(0, v, 1), 0, 1, 2, 3);
        Check.wrong("question, then place", INDEX, ArgumentsEdgeTest::sixSteps, x -> x.stepIf(0, 4, 1));
        Check.wrong("skip, then place", ARGUMENT, ArgumentsEdgeTest::sixSteps, x -> x.stepIf(0, 0, 6));
        Check.wrong("place", STATE, ArgumentsEdgeTest::sixSteps, x -> x.stepIf(0, 0, 1));
    }

    static void runAndUndo() {
        Check.wrongs("run", INDEX, ALL, (x, v) -> x.run(v), NO_ACT);
        Check.fine("run of four", x -> { Club.all(x); for (int a = 1; a < 4; a++) x.addAct(); }, (x, v) -> x.run(v), 0, 1, 2, 3);
        Check.wrong("undo", STATE, x -> { Club.all(x); x.undo(); }, ClubBase::undo);
        Check.wrong("undo of a new object", STATE, x -> { }, ClubBase::undo);
    }

    public static void main(String[] args) {
        Check.methods(ArgumentsEdgeTest.class);
    }
}
