/** The sentences of "Terms" on what is broken, on refusals and their reasons, and on exceptions. */
public final class RefusalsEdgeTest {
    private static final int B = ClubBase.BLANK;
    private static final int RANGE = ClubBase.RANGE, NEED = ClubBase.NEED, SINGLE = ClubBase.SINGLE, LINK = ClubBase.LINK, RULE = ClubBase.RULE;
    private static final int FORBIDDEN = ClubBase.FORBIDDEN, UNWRITABLE = ClubBase.UNWRITABLE, USED = ClubBase.USED, CIRCLE = ClubBase.CIRCLE, FULL = ClubBase.FULL;

    private static ClubBase club(Check.Calls setup) {
        ClubBase b = new ClubBase();
        setup.on(b);
        return b;
    }

    private static void no(String what, boolean got, ClubBase b, int... due) {
        Check.due(what, got, false);
        Check.reason(what, b, due[0], due[1], due[2], due[3]);
    }

    private static boolean enters(ClubBase b, int table, int... cells) {
        return Club.enter(b, table, cells) >= 0;
    }

    /**
     * Columns: 0 a needed number, 1 a single number, 2 a link to the table itself, 3 a number, 4 another such link; rule 0:
     * column 0 is at most column 3. Rows: 0 is 5, 1; 1 is 5, 2, 0. Question 0: row 1 alone. A form at row 0.
     */
    private static void strict(ClubBase b) {
        b.addTable();
        b.addNumber(0, 0, 9);
        b.addNumber(0, 0, 9);
        b.addLink(0, 0, ClubBase.BLANKS);
        b.addNumber(0, 0, 9);
        b.addLink(0, 0, ClubBase.BLANKS);
        b.need(0, 0, true);
        b.single(0, 1, true);
        b.addRule(0, 0, ClubBase.AT_MOST, 3, 0);
        Club.enter(b, 0, 5, 1);
        Club.enter(b, 0, 5, 2, 0);
        b.ask(0, -1);
        b.condition(0, 0, 1, ClubBase.IS, 2);
        b.openForm(0, 0);
    }

    /** For each way in which a row can be broken: its cells, the reason and the column. */
    private static final int[][] BROKEN_ROWS = {
        {RANGE, 0, 10, B, B, B, B}, {RANGE, 0, -1, B, B, B, B}, {NEED, 0, B, B, B, B, B}, {SINGLE, 1, 5, 1, B, B, B},
        {SINGLE, 1, 5, 2, B, B, B}, {LINK, 4, 5, B, B, B, 3}, {LINK, 4, 5, B, B, B, -1}, {LINK, 4, 5, B, B, B, 30}, {RULE, 0, 5, B, B, 4, B}};

    private static void typed(ClubBase b, int[] broken) {
        strict(b);
        for (int c = 0; c < 5; c++) b.type(c, broken[c + 2]);
    }

    /** "Each change of rows ... by which something would be broken, is refused: nothing changes": rows that are entered. */
    static void aRowThatIsBrokenIsNotEntered() {
        for (int[] broken : BROKEN_ROWS) {
            Check.refused("enter", x -> typed(x, broken), x -> x.enter(0) >= 0, broken[0], 0, 2, broken[1]);
            Check.refused("enterInside", x -> typed(x, broken), x -> x.enterInside(0, 2) >= 0, broken[0], 0, 2, broken[1]);
            Check.refused("ADD", x -> { typed(x, broken); x.addAct(); x.stepAdd(0, 0); }, x -> x.run(0), broken[0], 0, 2, broken[1]);
        }
    }

    /** For each way in which a cell of row 1 can be broken: the column, what is put there, the reason. */
    private static final int[][] BROKEN_CELLS = {
        {0, 10, RANGE, 0}, {0, -1, RANGE, 0}, {0, B, NEED, 0}, {1, 1, SINGLE, 1}, {2, 2, LINK, 2}, {4, -1, LINK, 4}, {4, 30, LINK, 4}, {3, 4, RULE, 0}};

    /** "Each change of rows ... by which something would be broken, is refused: nothing changes": cells that are put. */
    static void aCellThatIsBrokenIsNotPut() {
        for (int[] cell : BROKEN_CELLS) {
            Check.refused("put", RefusalsEdgeTest::strict, x -> x.put(0, 1, cell[0], cell[1]), cell[2], 0, 1, cell[3]);
            Check.refused("write", RefusalsEdgeTest::strict, x -> x.write(0, 0, cell[0], cell[1]), cell[2], 0, 1, cell[3]);
            Check.refused("PUT", x -> { strict(x); x.addAct(); x.stepPut(0, 0, cell[0], cell[1]); }, x -> x.run(0), cell[2], 0, 1, cell[3]);
        }
    }

    /** "Each change ... of the design that is told to refuse something, and by which something would be broken, is refused: nothing changes" */
    static void aDesignThatIsBrokenIsNotMade() {
        Check.refused("need", RefusalsEdgeTest::strict, x -> x.need(0, 2, true), NEED, 0, 0, 2);
        Check.refused("single", RefusalsEdgeTest::strict, x -> x.single(0, 0, true), SINGLE, 0, 1, 0);
        Check.refused("narrow", RefusalsEdgeTest::strict, x -> x.narrow(0, 0, 6, 9), NEED, 0, 0, 0);
        Check.refused("narrow that breaks a rule", x -> { strict(x); x.addRule(0, 1, ClubBase.BOTH, 0, 0); }, x -> x.narrow(0, 1, 2, 2), RULE, 0, 0, 1);
        Check.refused("addRule", RefusalsEdgeTest::strict, x -> x.addRule(0, 1, ClubBase.UNLIKE, 0, -3) >= 0, RULE, 0, 1, 1);
        Check.refused("reckonAnew", Club::all, x -> x.reckonAnew(0, 2, ClubBase.TIMES, 0, 1, 0), RULE, 0, 1, 0);
        Check.refused("reckonAnew in a circle", Club::all, x -> x.reckonAnew(0, 2, ClubBase.ADD, 2, 1, 0), CIRCLE, 0, -1, 2);
        Check.refused("drop", Club::all, x -> x.drop(0, 1), USED, 0, -1, 1);
    }

    /** "Removing ... is refused as FORBIDDEN, or if something would be broken": nothing changes. */
    static void aRemovalThatBreaksSomethingIsNotDone() {
        Check.refused("forbidden", Club::all, x -> x.remove(0, 1), FORBIDDEN, 1, 1, 0);
        Check.refused("REMOVE, forbidden", x -> { Club.all(x); x.stepRemove(0, 1, 4); x.addAct(); x.stepRemove(1, 1, 4); }, x -> x.run(1), FORBIDDEN, 1, 0, 0);
        Check.refused("needed", x -> { strict(x); x.put(0, 0, 2, 0); x.need(0, 2, true); x.remove(0, 1); x.type(0, 1); x.enterInside(0, 2); }, x -> x.remove(0, 0), NEED, 0, 2, 2);
        Check.refused("a rule for the link", x -> { strict(x); x.put(0, 0, 2, 1); x.addRule(0, 0, ClubBase.BOTH, 2, 0); }, x -> x.remove(0, 0), RULE, 0, 1, 1);
        Check.refused("a rule for a count", x -> { Club.all(x); x.addRule(0, 3, ClubBase.UNLIKE, 0, -1); }, x -> x.remove(1, 2), RULE, 0, 1, 1);
    }

    /** The other reasons, "-1 where it has none". */
    static void theOtherReasons() {
        Check.refused("UNWRITABLE", Club::all, x -> x.write(0, 0, 3, 1), UNWRITABLE, -1, -1, -1);
        Check.refused("UNWRITABLE by PUT", x -> { Club.all(x); x.stepPut(0, 0, 3, 1); }, x -> x.run(0), UNWRITABLE, -1, -1, -1);
        Check.refused("UNWRITABLE by REMOVE", x -> { Club.all(x); x.ask(12, -1); x.stepRemove(0, 4, 0); }, x -> x.run(0), UNWRITABLE, -1, -1, -1);
        Check.refused("FULL", x -> { Club.all(x); for (int r = 1; r < 30; r++) Club.enter(x, 2); x.stepAdd(0, 2); }, x -> x.run(0), FULL, 2, -1, -1);
    }

    /** "by RANGE, a cell of a number column that is not BLANK and not from its least to its greatest number" */
    static void brokenByRange() {
        int[][] ranges = {{-9999, 9999}, {-9999, -9999}, {9999, 9999}, {0, 0}, {-1, 1}, {5, 9}, {-9, -5}};
        for (int[] range : ranges) {
            ClubBase b = new ClubBase();
            b.addTable();
            b.addNumber(0, range[0], range[1]);
            String what = "from " + range[0] + " to " + range[1] + ": ";
            Check.due(what + "BLANK", enters(b, 0, B), true);
            Check.due(what + "least", b.put(0, 0, 0, range[0]), true);
            Check.due(what + "most", b.put(0, 0, 0, range[1]), true);
            if (range[0] > -9999) no(what + "below", b.put(0, 0, 0, range[0] - 1), b, RANGE, 0, 0, 0);
            if (range[1] < 9999) no(what + "above", b.put(0, 0, 0, range[1] + 1), b, RANGE, 0, 0, 0);
            if (range[0] > -9999) no(what + "far below", b.put(0, 0, 0, -9999), b, RANGE, 0, 0, 0);
            if (range[1] < 9999) no(what + "far above", b.put(0, 0, 0, 9999), b, RANGE, 0, 0, 0);
            Check.due(what + "as it was", b.cell(0, 0, 0), range[1]);
        }
    }

    /** "by NEED, a cell of a needed column that is BLANK": 0 is not BLANK, and only rows that are there count. */
    static void brokenByNeed() {
        ClubBase b = Club.small();
        Club.enter(b, 0, 0);
        Club.enter(b, 0, B);
        no("BLANK", b.need(0, 0, true), b, NEED, 0, 1, 0);
        b.remove(0, 1);
        Check.due("a row that was removed", b.need(0, 0, true), true);
        no("0 becomes BLANK", b.put(0, 0, 0, B), b, NEED, 0, 0, 0);
        no("an empty draft", enters(b, 0), b, NEED, 0, 2, 0);
        Check.due("needed again", b.need(0, 0, true), true);
        Check.due("no more", b.need(0, 0, false), true);
        Check.due("an empty row", enters(b, 0), true);
    }

    /** "by SINGLE, a cell of a single column that is not BLANK and the same as that of a row with a lower number that is there" */
    static void brokenBySingle() {
        ClubBase b = Club.small();
        b.single(0, 0, true);
        Check.due("two BLANK cells", enters(b, 0, B, 1) && enters(b, 0, B, 1), true);
        Check.due("0", enters(b, 0, 0), true);
        no("0 again", enters(b, 0, 0), b, SINGLE, 0, 3, 0);
        no("the higher row is told", b.put(0, 0, 0, 0), b, SINGLE, 0, 2, 0);
        Check.due("the same as itself", b.put(0, 2, 0, 0), true);
        Check.due("another cell of the row", b.put(0, 2, 1, 0), true);
        b.remove(0, 2);
        Check.due("the same as that of a row that was removed", enters(b, 0, 0), true);
        Check.due("another column", b.single(0, 1, true), false);
        Check.reason("another column", b, SINGLE, 0, 1, 1);
        b.addTable();
        b.addNumber(1, 0, 9);
        b.single(1, 0, true);
        Check.due("another table", enters(b, 1, 0), true);
    }

    /** SINGLE tells the first row that is the same as a lower one, of three as of two. */
    static void singleTellsTheFirst() {
        ClubBase b = Club.small();
        for (int r = 0; r < 30; r++) Club.enter(b, 0, B, r == 4 || r == 17 || r == 29 ? 9 : B);
        no("of three", b.single(0, 1, true), b, SINGLE, 0, 17, 1);
        b.put(0, 17, 1, B);
        no("of two", b.single(0, 1, true), b, SINGLE, 0, 29, 1);
        b.remove(0, 4);
        Check.due("of one", b.single(0, 1, true), true);
        no("the lowest row, and the last one is told", b.put(0, 0, 1, 9), b, SINGLE, 0, 29, 1);
        no("the row ahead", b.put(0, 28, 1, 9), b, SINGLE, 0, 29, 1);
    }

    /** "by LINK, a cell of a link that is not BLANK and does not lead to a row that is there" */
    static void brokenByLink() {
        ClubBase b = new ClubBase();
        b.addTable();
        b.addTable();
        b.addLink(0, 1, ClubBase.BLANKS);
        Club.enter(b, 1);
        Club.enter(b, 1);
        Club.enter(b, 0, 0);
        b.remove(1, 0);
        Check.due("BLANK by that", b.cell(0, 0, 0), B);
        int[] wrong = {0, 2, -1, 29, 30, 31, 9999, -9999, -30};
        for (int row : wrong) no("to row " + row, b.put(0, 0, 0, row), b, LINK, 0, 0, 0);
        Check.due("to row 1", b.put(0, 0, 0, 1), true);
        Check.due("BLANK", b.put(0, 0, 0, B), true);
        for (int r = 2; r < 30; r++) Club.enter(b, 1);
        Check.due("to row 29", b.put(0, 0, 0, 29), true);
    }

    /** A link that does not lead to a row is refused also if formulas take cells over it. */
    static void brokenByALinkThatFormulasUse() {
        Check.Calls setup = x -> {
            for (int t = 0; t < 2; t++) x.addTable();
            x.addNumber(0, 0, 9);
            x.addLink(1, 0, ClubBase.BLANKS);
            x.addNumber(1, 0, 9);
            x.addReckoned(0, ClubBase.TOTAL, 0, 1, 1);
            x.addReckoned(0, ClubBase.COUNT, 0, 1, 1);
            x.addReckoned(1, ClubBase.LOOK, 0, 0, 0);
            Club.enter(x, 0, 7);
            Club.enter(x, 0, 8);
            Club.enter(x, 1, 1, 5);
            x.remove(0, 0);
            x.ask(1, -1);
        };
        int[] wrong = {0, 2, -1, -2, 29, 30, 31, 60, 9999, -9999};
        for (int row : wrong) {
            Check.refused("put " + row, setup, x -> x.put(1, 0, 0, row), LINK, 1, 0, 0);
            Check.refused("write " + row, setup, x -> x.write(0, 0, 0, row), LINK, 1, 0, 0);
            Check.refused("enter " + row, x -> { setup.on(x); x.type(0, row); }, x -> x.enter(1) >= 0, LINK, 1, 1, 0);
        }
    }

    /** A row that is being entered is there: a link of it can lead to itself, not to one behind it. */
    static void aNewRowCanLeadToItself() {
        ClubBase b = new ClubBase();
        b.addTable();
        b.addLink(0, 0, ClubBase.FORBIDS);
        no("to the next", enters(b, 0, 1), b, LINK, 0, 0, 0);
        Check.due("to itself", enters(b, 0, 0), true);
        Check.due("to itself, the next", enters(b, 0, 1), true);
        Check.due("its link forbids nothing", b.remove(0, 1), true);
    }

    /** "its reason is the first thing that would be broken, by rising tables" */
    static void theLowestTableIsToldFirst() {
        ClubBase b = club(Club::all);
        no("a rule of table 0 ahead of a range of table 1", b.put(1, 1, 1, 101), b, RULE, 0, 1, 0);
        no("a rule of table 0 ahead of a range of a new row", enters(b, 1, 0, 101, 77), b, RULE, 0, 0, 0);
        b.dropRule(0);
        no("table 1 alone", b.put(1, 1, 1, 101), b, RANGE, 1, 1, 1);
        no("the range ahead of the link", enters(b, 1, 0, 101, 77), b, RANGE, 1, 4, 1);
    }

    /** "rising rows": what is behind the columns of a row is told ahead of the columns of the next. */
    static void theLowestRowIsToldFirst() {
        ClubBase b = Club.small();
        b.single(0, 1, true);
        b.addRule(0, 1, ClubBase.AT_MOST, 0, 0);
        Club.enter(b, 0, 1, 1);
        Club.enter(b, 0, 2, 2);
        no("a rule of row 0, single of row 1", b.put(0, 0, 1, 2), b, RULE, 0, 0, 0);
        b.dropRule(0);
        no("single of row 1", b.put(0, 0, 1, 2), b, SINGLE, 0, 1, 1);
        b.addTable();
        Club.enter(b, 0, 9, 9);
        no("of three rows", b.addRule(0, 1, ClubBase.UNLIKE, 0, 0) >= 0, b, RULE, 0, 0, 1);
        b.put(0, 0, 0, 5);
        no("of two rows", b.addRule(0, 1, ClubBase.UNLIKE, 0, 0) >= 0, b, RULE, 0, 1, 1);
    }

    /** "columns rising, and for each RANGE, NEED, SINGLE, LINK in this order, then rules rising" */
    static void theLowestColumnIsToldFirst() {
        ClubBase b = new ClubBase();
        b.addTable();
        b.addLink(0, 0, ClubBase.BLANKS);
        b.addNumber(0, 0, 9);
        b.addNumber(0, 0, 9);
        b.addLink(0, 0, ClubBase.BLANKS);
        b.addNumber(0, 0, 9);
        b.addRule(0, 2, ClubBase.AT_MOST, 4, 0);
        b.addRule(0, 2, ClubBase.ALIKE, 4, 0);
        b.addRule(0, 2, ClubBase.BOTH, 4, 0);
        b.single(0, 1, true);
        b.need(0, 3, true);
        Club.enter(b, 0, B, 3, 1, 0, 1);
        no("LINK", enters(b, 0, 7, 3, 10, B, 0), b, LINK, 0, 1, 0);
        no("then SINGLE", enters(b, 0, B, 3, 10, B, 0), b, SINGLE, 0, 1, 1);
        no("then RANGE", enters(b, 0, B, 4, 10, B, 0), b, RANGE, 0, 1, 2);
        no("then NEED", enters(b, 0, B, 4, 9, B, -1), b, NEED, 0, 1, 3);
        no("then the last column", enters(b, 0, B, 4, 9, 0, -1), b, RANGE, 0, 1, 4);
        no("then the first rule", enters(b, 0, B, 4, 9, 0, 0), b, RULE, 0, 1, 0);
        no("then the second", enters(b, 0, B, 4, 0, 0, 9), b, RULE, 0, 1, 1);
        no("then the third", enters(b, 0, B, 4, 0, 0, B), b, RULE, 0, 1, 2);
        b.dropRule(0);
        no("without the first", enters(b, 0, B, 4, 9, 0, 0), b, RULE, 0, 1, 1);
        Check.due("nothing", enters(b, 0, B, 4, 0, 0, 0), true);
    }

    private static void toldBefore(ClubBase b) {
        Club.all(b);
        b.dropRule(0);
        b.stepPut(0, 0, 1, 5);
        b.clearDraft();
        b.put(0, 2, 1, 501);
    }

    /** "It is told until the next call that can be refused, which has its own, or none if it is not refused." */
    static void aCallThatIsNotRefusedHasNoReason() {
        Check.Calls[] changes = {x -> x.reckonAnew(0, 3, ClubBase.COUNT, 0, 0, 1), x -> x.need(0, 0, true), x -> x.need(0, 0, false),
            x -> x.single(0, 0, true), x -> x.single(0, 0, false), x -> x.narrow(0, 0, 0, 9), x -> x.drop(2, 1), x -> x.addRule(0, 0, 3, 0, 0),
            x -> x.enter(0), x -> x.put(0, 0, 0, 0), x -> x.remove(2, 0), x -> x.enterInside(1, 0), x -> x.write(0, 0, 1, 0), x -> x.run(0)};
        for (int n = 0; n < changes.length; n++) {
            ClubBase b = club(RefusalsEdgeTest::toldBefore);
            Check.reason("before", b, RANGE, 0, 2, 1);
            changes[n].on(b);
            Check.reason("change " + n, b, 0, -1, -1, -1);
        }
    }

    /** "which has its own" */
    static void aRefusedCallHasItsOwnReason() {
        ClubBase b = club(RefusalsEdgeTest::toldBefore);
        no("forbidden", b.remove(0, 0), b, FORBIDDEN, 1, 0, 0);
        no("range", b.put(0, 1, 0, 10), b, RANGE, 0, 1, 0);
        no("unwritable", b.write(2, 0, 0, 0), b, UNWRITABLE, -1, -1, -1);
        no("used", b.drop(0, 1), b, USED, 0, -1, 1);
        no("circle", b.reckonAnew(1, 3, ClubBase.ADD, 3, 1, 0), b, CIRCLE, 1, -1, 3);
        no("needed", b.need(0, 1, true), b, NEED, 0, 2, 1);
        Check.due("none", b.put(0, 2, 1, 500), true);
        Check.reason("none", b, 0, -1, -1, -1);
    }

    /** "It is told until the next call that can be refused": other calls leave it as it is. */
    static void otherCallsLeaveTheReason() {
        Check.Calls[] calls = {ClubBase::addTable, x -> x.addNumber(2, 0, 9), x -> x.addLink(2, 0, 0), x -> x.addReckoned(2, 0, 1, 1, 0),
            x -> x.wouldLose(0, 0, 0, 1), x -> x.wouldLoseAll(0, 0), x -> x.setRemoval(1, 0, 0), x -> { x.addRule(0, 0, 3, 0, 0); x.put(0, 2, 1, 501); x.dropRule(1); },
            x -> x.order(0), ClubBase::reason, ClubBase::whereTable, ClubBase::whereRow, ClubBase::whereColumn, ClubBase::broken, x -> x.type(0, 3),
            ClubBase::clearDraft, x -> x.openForm(1, 1), x -> x.choice(1, 0, 0, 0), x -> x.choice(1, 0, 0, 9), x -> x.cell(0, 0, 0), x -> x.isThere(0, 9), x -> x.rows(0),
            x -> x.ask(0, -1), x -> x.condition(0, 0, 0, 0, 0), x -> x.askGroups(0, 0, 0), x -> x.askCross(0, 0, 0, 0), x -> x.answers(0),
            x -> x.columns(3), x -> x.answer(0, 0, 0), x -> x.keyOf(3, 1), x -> x.target(0, 0, 0), ClubBase::addAct, x -> x.stepPut(0, 0, 0, 0),
            x -> x.stepAdd(0, 0), x -> x.stepRemove(0, 0, 0), x -> x.stepIf(0, 0, 1), ClubBase::undoable, x -> { x.run(0); x.put(0, 2, 1, 501); x.undo(); }};
        for (int n = 0; n < calls.length; n++) {
            ClubBase b = club(RefusalsEdgeTest::toldBefore);
            calls[n].on(b);
            Check.reason("call " + n, b, RANGE, 0, 2, 1);
        }
    }

    /** "In all that is there nothing may be broken": broken() counts 0 whatever was tried. */
    static void nothingIsEverBroken() {
        ClubBase b = club(RefusalsEdgeTest::strict);
        for (int[] cell : BROKEN_CELLS) {
            b.put(0, 1, cell[0], cell[1]);
            Check.due("after a put", b.broken(), 0);
        }
        b.narrow(0, 3, 1, 1);
        Check.due("after narrow()", b.broken(), 0);
        b.addRule(0, 0, ClubBase.UNLIKE, 0, 0);
        Check.due("after a refused rule", b.broken(), 0);
        b.remove(0, 0);
        Check.due("after remove()", b.broken(), 0);
        b.addAct();
        b.stepRemove(0, 0, 0);
        b.run(0);
        Check.due("after run()", b.broken(), 0);
        b.undo();
        Check.due("after undo()", b.broken(), 0);
    }

    /** Table 0: number, link to itself, reckoned, all dropped, then a number and a link; rows 0 to 2, row 1 removed. */
    private static void dropped(ClubBase b) {
        b.addTable();
        b.addNumber(0, 0, 9);
        b.addLink(0, 0, ClubBase.BLANKS);
        b.addReckoned(0, ClubBase.ADD, 0, 0, 0);
        b.addNumber(0, 0, 9);
        b.addLink(0, 0, ClubBase.BLANKS);
        for (int r = 0; r < 3; r++) Club.enter(b, 0, r, r, B, r, 0);
        b.ask(0, -1);
        b.drop(0, 2);
        b.drop(0, 1);
        b.drop(0, 0);
        b.remove(0, 1);
        b.openForm(0, 0);
        b.addAct();
        b.type(3, 4);
    }

    /** "a column that was dropped counts as one that there is": IllegalArgumentException, if it has to be another. */
    static void aDroppedColumnCountsAsOneThatThereIs() {
        Check.Calls s = RefusalsEdgeTest::dropped;
        for (int c = 0; c < 3; c++) {
            int column = c;
            Check.wrong("reckonAnew", Check.ARGUMENT, s, x -> x.reckonAnew(0, column, ClubBase.ADD, 3, 3, 0));
            Check.wrong("formula one", Check.ARGUMENT, s, x -> x.addReckoned(0, ClubBase.ADD, column, 3, 0));
            Check.wrong("formula two", Check.ARGUMENT, s, x -> x.addReckoned(0, ClubBase.TIMES, 3, column, 0));
            Check.wrong("LOOK one", Check.ARGUMENT, s, x -> x.addReckoned(0, ClubBase.LOOK, column, 3, 0));
            Check.wrong("LOOK two", Check.ARGUMENT, s, x -> x.addReckoned(0, ClubBase.LOOK, 4, column, 0));
            Check.wrong("TOTAL one", Check.ARGUMENT, s, x -> x.addReckoned(0, ClubBase.TOTAL, column, 3, 0));
            Check.wrong("TOTAL two", Check.ARGUMENT, s, x -> x.addReckoned(0, ClubBase.TOTAL, 4, column, 0));
            Check.wrong("COUNT one", Check.ARGUMENT, s, x -> x.addReckoned(0, ClubBase.COUNT, column, 3, 0));
            Check.fine("COUNT two", s, (x, v) -> x.addReckoned(0, ClubBase.COUNT, 4, v, 0), c);
            Check.wrong("need", Check.ARGUMENT, s, x -> x.need(0, column, false));
            Check.wrong("single", Check.ARGUMENT, s, x -> x.single(0, column, false));
            Check.wrong("wouldLose", Check.ARGUMENT, s, x -> x.wouldLose(0, column, 0, 9));
            Check.wrong("narrow", Check.ARGUMENT, s, x -> x.narrow(0, column, 0, 9));
            Check.wrong("drop", Check.ARGUMENT, s, x -> x.drop(0, column));
            Check.wrong("setRemoval", Check.ARGUMENT, s, x -> x.setRemoval(0, column, 0));
            Check.wrong("addRule one", Check.ARGUMENT, s, x -> x.addRule(0, column, 0, 3, 0));
            Check.wrong("addRule other", Check.ARGUMENT, s, x -> x.addRule(0, 3, 0, column, 0));
            Check.wrong("put", Check.ARGUMENT, s, x -> x.put(0, 0, column, B));
            Check.wrong("enterInside", Check.ARGUMENT, s, x -> x.enterInside(0, column));
            Check.wrong("choice", Check.ARGUMENT, s, x -> x.choice(0, 0, column, 0));
            Check.wrong("ask", Check.ARGUMENT, s, x -> x.ask(0, column));
            Check.wrong("ask over a question", Check.ARGUMENT, s, x -> x.ask(10, column));
            aDroppedColumnHasAnswers(club(s), column);
        }
    }

    private static void aDroppedColumnHasAnswers(ClubBase b, int column) {
        Check.due("wouldLoseAll", b.wouldLoseAll(0, column), 0);
        Check.due("cell", b.cell(0, 0, column), B);
        Check.due("answer", b.answer(0, 1, column), B);
        Check.due("target", b.target(0, 1, column), -1);
        no("write", b.write(0, 1, column, B), b, UNWRITABLE, -1, -1, -1);
        Check.due("askGroups", b.askGroups(0, column, column), 1);
        Check.due("one group", b.answers(1), 1);
        Check.due("askCross", b.askCross(10, column, column, column), 2);
        Check.due("one key", b.columns(2), 2);
        Check.due("condition", b.condition(0, 0, column, ClubBase.EMPTY, 0), 1);
        Check.due("all answers", b.answers(0), 2);
        Check.due("stepPut", b.stepPut(0, 0, column, 1), 1);
        no("PUT", b.run(0), b, UNWRITABLE, -1, -1, -1);
        b.addAct();
        Check.due("stepRemove", b.stepRemove(1, 0, column), 1);
        Check.due("REMOVE", b.run(1), true);
        Check.due("no row is left", b.isThere(0, 0) || b.isThere(0, 2), false);
    }

    /** "a row that was removed does not" count as one that there is. */
    static void aRemovedRowDoesNotCountAsOneThatThereIs() {
        Check.Calls s = RefusalsEdgeTest::dropped;
        Check.wrong("put", Check.INDEX, s, x -> x.put(0, 1, 3, 1));
        Check.wrong("remove", Check.INDEX, s, x -> x.remove(0, 1));
        Check.wrong("openForm", Check.INDEX, s, x -> x.openForm(0, 1));
        Check.wrong("choice", Check.INDEX, s, x -> x.choice(0, 1, 4, 0));
        Check.wrong("cell", Check.INDEX, s, x -> x.cell(0, 1, 3));
        ClubBase b = club(s);
        Check.due("isThere", b.isThere(0, 1), false);
        Check.due("it is no answer", b.answers(0), 2);
        Check.due("nor a choice", b.choice(0, 0, 4, 1), 2);
        Check.due("its cells are not counted", b.wouldLoseAll(0, 3), 2);
        Check.due("its cells are not counted there, either", b.wouldLose(0, 3, 0, 0), 1);
    }

    public static void main(String[] args) {
        Check.methods(RefusalsEdgeTest.class);
    }
}
