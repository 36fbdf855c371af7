/** The sentences of "Terms", ROWS, and of promises 22 to 32 that name a bound: the draft, forms, removals, choices. */
public final class RowsEdgeTest {
    private static final int B = ClubBase.BLANK;
    private static final int FORBIDS = ClubBase.FORBIDS, FOLLOWS = ClubBase.FOLLOWS, BLANKS = ClubBase.BLANKS;

    private static ClubBase tables(int count) {
        ClubBase b = new ClubBase();
        for (int t = 0; t < count; t++) b.addTable();
        return b;
    }

    private static void cells(String what, ClubBase b, int table, int row, int... due) {
        for (int c = 0; c < due.length; c++) Check.due(what + ": cell " + c, b.cell(table, row, c), due[c]);
    }

    private static void draft(String what, ClubBase b, int... due) {
        for (int c = 0; c < 6; c++) Check.due(what + ": draft " + c, b.type(c, c < due.length ? due[c] : B), c < due.length ? due[c] : B);
    }

    private static void there(String what, ClubBase b, int table, int... due) {
        for (int r = 0; r < due.length; r++) Check.due(what + ": row " + r, b.isThere(table, r), due[r] == 1);
    }

    /** "There is a draft of six cells, all BLANK at first." */
    static void theDraftHasSixCellsAllBlankAtFirst() {
        ClubBase b = new ClubBase();
        draft("at first", b);
        for (int c = 0; c < 6; c++) Check.due("typed", b.type(c, 10 * c), B);
        draft("typed", b, 0, 10, 20, 30, 40, 50);
        Check.thrown("a seventh", Check.ARGUMENT, b, x -> x.type(6, 0));
        Check.due("six cells", b.clearDraft(), 6);
        draft("emptied", b);
        Check.due("none", b.clearDraft(), 0);
    }

    /** Promise 22: "Returns the cell before", at the ends of what can be typed. */
    static void typeReturnsTheCellBefore() {
        ClubBase b = new ClubBase();
        int[] typed = {9999, -9999, 0, B, B, 0, 9999};
        int before = B;
        for (int value : typed) {
            Check.due("before " + value, b.type(5, value), before);
            before = value;
        }
    }

    /** Promise 23: "returns how many of its cells were not BLANK": 0 is not. */
    static void clearDraftCountsWhatIsNotBlank() {
        ClubBase b = new ClubBase();
        for (int count = 0; count <= 6; count++) {
            for (int c = 0; c < count; c++) b.type(5 - c, 0);
            Check.due("of " + count, b.clearDraft(), count);
        }
        b.type(2, 1);
        b.type(2, B);
        Check.due("typed BLANK", b.clearDraft(), 0);
    }

    /** "Entering it makes a row with the cells of the draft in its stored columns; the draft is BLANK then." */
    static void enteringFillsStoredColumns() {
        ClubBase b = tables(1);
        b.addNumber(0, 0, 9);
        b.addReckoned(0, ClubBase.ADD, 0, 0, 0);
        b.addNumber(0, 0, 9);
        b.addLink(0, 0, BLANKS);
        b.drop(0, 2);
        Check.due("six cells are typed", Club.enter(b, 0, 4, 99, 99, 0, 99, 99), 0);
        cells("stored columns alone", b, 0, 0, 4, 8, B, 0);
        draft("it is BLANK then", b);
        Check.due("a BLANK draft", b.enter(0), 1);
        cells("a BLANK row", b, 0, 1, B, B, B, B);
        Check.due("all six columns", b.addNumber(0, 0, 9) + b.addNumber(0, 0, 9), 9);
        Club.enter(b, 0, 1, 2, 3, 1, 5, 6);
        cells("all stored columns", b, 0, 2, 1, 2, B, 1, 5, 6);
    }

    /** A table without columns has rows, too. */
    static void aTableWithoutColumnsHasRows() {
        ClubBase b = tables(1);
        Check.due("entered", Club.enter(b, 0, 1, 2, 3, 4, 5, 6), 0);
        draft("it is BLANK then", b);
        Check.due("there", b.isThere(0, 0), true);
        Check.thrown("no cell", Check.INDEX, b, x -> x.cell(0, 0, 0));
        Check.due("removed", b.remove(0, 0), true);
    }

    /** "If that is refused, no row is made, and the draft stays." */
    static void aRefusedDraftStays() {
        ClubBase b = tables(1);
        b.addNumber(0, 0, 9);
        b.addLink(0, 0, BLANKS);
        Club.enter(b, 0);
        Check.due("refused", Club.enter(b, 0, 10, B, 3, 4, 5, -9999), -1);
        Check.due("no row", b.rows(0), 1);
        draft("it stays", b, 10, B, 3, 4, 5, -9999);
        b.openForm(0, 0);
        Check.due("refused inside", b.enterInside(0, 1), -1);
        Check.due("no row inside", b.rows(0), 1);
        draft("it stays, too", b, 10, B, 3, 4, 5, -9999);
        b.type(0, 9);
        Check.due("the number is free", b.enter(0), 1);
    }

    /** "the cell of that link is the row of the form then, whatever the draft has there" */
    static void theLinkOfAFormIsItsRow() {
        int[] typed = {B, 0, 1, 2, 9, -1, 9999};
        for (int cell : typed) {
            ClubBase b = tables(2);
            b.addLink(1, 0, FORBIDS);
            b.addLink(1, 0, FORBIDS);
            b.addNumber(1, 0, 9);
            b.enter(0);
            b.enter(0);
            b.openForm(0, 1);
            b.type(0, 0);
            b.type(1, cell);
            b.type(2, 7);
            b.type(5, 8);
            Check.due("entered with " + cell, b.enterInside(1, 1), 0);
            cells("with " + cell, b, 1, 0, 0, 1, 7);
            draft("it is BLANK then", b);
        }
    }

    /** "Inside of it rows of another table, or the same one, can be entered": the other link is the draft's. */
    static void insideOfAFormOfTheSameTable() {
        ClubBase b = tables(1);
        b.addLink(0, 0, FORBIDS);
        b.addLink(0, 0, FORBIDS);
        b.enter(0);
        b.openForm(0, 0);
        Check.due("the first link", b.enterInside(0, 0), 1);
        cells("the first link", b, 0, 1, 0, B);
        Check.due("the second link", b.enterInside(0, 1), 2);
        cells("the second link", b, 0, 2, B, 0);
        b.type(0, 3);
        Check.due("the other one leads to the new row", b.enterInside(0, 1), 3);
        cells("the other one leads to the new row", b, 0, 3, 3, 0);
        b.type(0, 5);
        Check.due("the other one leads nowhere", b.enterInside(0, 1), -1);
        Check.reason("the other one leads nowhere", b, ClubBase.LINK, 0, 4, 0);
        b.openForm(0, 3);
        Check.due("a form at the new row", b.enterInside(0, 1), -1);
        b.clearDraft();
        Check.due("a form at the new row, again", b.enterInside(0, 1), 4);
        Check.due("its link", b.cell(0, 4, 1), 3);
    }

    private static ClubBase withForm() {
        ClubBase b = tables(2);
        b.addLink(1, 0, BLANKS);
        for (int r = 0; r < 3; r++) b.enter(0);
        b.openForm(0, 1);
        return b;
    }

    /** Promise 27: "in place of one that is open"; a call that throws opens none. */
    static void openFormTakesThePlaceOfTheOther() {
        ClubBase b = withForm();
        b.openForm(0, 2);
        b.enterInside(1, 0);
        Check.due("the second form", b.cell(1, 0, 0), 2);
        Check.thrown("no row", Check.INDEX, b, x -> x.openForm(0, 3));
        Check.thrown("no table", Check.INDEX, b, x -> x.openForm(2, 0));
        b.enterInside(1, 0);
        Check.due("the second form still", b.cell(1, 1, 0), 2);
        b.openForm(1, 1);
        Check.thrown("a form of the other table", Check.ARGUMENT, b, x -> x.enterInside(1, 0));
        b.openForm(0, 0);
        b.openForm(0, 0);
        b.enterInside(1, 0);
        Check.due("the first row", b.cell(1, 2, 0), 0);
    }

    /** Promise 28: "its row, that at which it was opened, is not there any more" */
    static void aFormWhoseRowIsGone() {
        ClubBase b = withForm();
        b.remove(0, 0);
        Check.due("another row is gone", b.enterInside(1, 0), 0);
        b.remove(0, 1);
        Check.thrown("its row is gone", Check.STATE, b, x -> x.enterInside(1, 0));
        b.enter(0);
        Check.thrown("its row is gone, another one is there", Check.STATE, b, x -> x.enterInside(1, 0));
        b.openForm(0, 3);
        Check.due("a form at that", b.enterInside(1, 0), 1);
        ClubBase follows = withForm();
        follows.addLink(0, 0, FOLLOWS);
        follows.put(0, 1, 0, 2);
        follows.remove(0, 2);
        Check.thrown("its row followed", Check.STATE, follows, x -> x.enterInside(1, 0));
    }

    /** Promise 28: a removal that is refused or taken back leaves the row at which the form was opened. */
    static void aFormWhoseRowStays() {
        ClubBase b = withForm();
        b.setRemoval(1, 0, FORBIDS);
        Check.due("a row inside", b.enterInside(1, 0), 0);
        Check.due("forbidden", b.remove(0, 1), false);
        Check.due("it is there", b.enterInside(1, 0), 1);
        b.setRemoval(1, 0, BLANKS);
        b.addNumber(0, 0, 9);
        b.ask(0, -1);
        b.addAct();
        b.stepRemove(0, 0, 0);
        b.type(0, 77);
        b.stepAdd(0, 0);
        Check.due("an act that is refused", b.run(0), false);
        b.clearDraft();
        Check.due("it is there, too", b.enterInside(1, 0), 2);
        b.addAct();
        b.stepRemove(1, 0, 0);
        Check.due("an act that is done", b.run(1), true);
        Check.thrown("it is gone", Check.STATE, b, x -> x.enterInside(1, 0));
        b.undo();
        Check.due("it is there again", b.enterInside(1, 0), 3);
    }

    /** Promise 28: "also if another one has its number by then": one whose making was taken back. */
    static void aFormWhoseRowWasTakenBack() {
        ClubBase b = tables(1);
        b.addLink(0, 0, BLANKS);
        b.addAct();
        b.stepAdd(0, 0);
        b.run(0);
        b.openForm(0, 0);
        Check.due("it is there", b.enterInside(0, 0), 1);
        ClubBase back = tables(1);
        back.addLink(0, 0, BLANKS);
        back.addAct();
        back.stepAdd(0, 0);
        back.run(0);
        back.openForm(0, 0);
        back.undo();
        Check.thrown("taken back", Check.STATE, back, x -> x.enterInside(0, 0));
        back.run(0);
        Check.due("its number is used again", back.isThere(0, 0), true);
        Check.thrown("by another row of the act", Check.STATE, back, x -> x.enterInside(0, 0));
        back.undo();
        back.enter(0);
        Check.thrown("by another row", Check.STATE, back, x -> x.enterInside(0, 0));
        back.openForm(0, 0);
        Check.due("a form at that", back.enterInside(0, 0), 1);
    }

    /** "Removing a row removes, too, each row that is there with a link that FOLLOWS to one that is removed, and so on." */
    static void aChainOfThirtyFollows() {
        for (int up = 0; up < 2; up++) {
            ClubBase b = tables(1);
            b.addLink(0, 0, FOLLOWS);
            for (int r = 0; r < 30; r++) Club.enter(b, 0, up == 0 && r > 0 ? r - 1 : B);
            for (int r = 0; up == 1 && r < 29; r++) b.put(0, r, 0, r + 1);
            int head = up == 0 ? 0 : 29;
            int tenth = up == 0 ? 10 : 19;
            Check.due("from the tenth", b.remove(0, tenth), true);
            for (int r = 0; r < 30; r++) Check.due("row " + r, b.isThere(0, r), up == 0 ? r < 10 : r > 19);
            Check.due("from the head", b.remove(0, head), true);
            for (int r = 0; r < 30; r++) Check.due("row " + r, b.isThere(0, r), false);
        }
    }

    /** "and so on": over all four tables, up and down, 120 rows in all. */
    static void aChainOverFourTablesFollows() {
        ClubBase b = tables(4);
        for (int t = 0; t < 4; t++) b.addLink(t, (t + 3) % 4, FOLLOWS);
        for (int t = 0; t < 4; t++) {
            for (int r = 0; r < 30; r++) Club.enter(b, t, t == 0 ? B : r);
        }
        for (int r = 1; r < 30; r++) b.put(0, r, 0, r - 1);
        Check.due("row 28", b.remove(1, 28), true);
        int[] left = {29, 28, 28, 28};
        for (int t = 0; t < 4; t++) {
            for (int r = 27; r < 30; r++) Check.due("table " + t + ", row " + r, b.isThere(t, r), r < left[t]);
        }
        Check.due("row 0", b.remove(0, 0), true);
        for (int t = 0; t < 4; t++) {
            for (int r = 0; r < 30; r += 9) Check.due("table " + t + ", row " + r, b.isThere(t, r), false);
        }
        Check.due("rows that were made", b.rows(0) + b.rows(1) + b.rows(2) + b.rows(3), 120);
    }

    /** A ring is removed as a whole, a row that leads to itself alone. */
    static void ringsFollow() {
        ClubBase b = tables(1);
        b.addLink(0, 0, FOLLOWS);
        for (int r = 0; r < 6; r++) b.enter(0);
        for (int r = 0; r < 3; r++) b.put(0, r, 0, (r + 1) % 3);
        b.put(0, 3, 0, 3);
        b.put(0, 4, 0, 3);
        Check.due("a ring", b.remove(0, 1), true);
        there("a ring", b, 0, 0, 0, 0, 1, 1, 1);
        Check.due("one that follows", b.remove(0, 4), true);
        there("one that follows", b, 0, 0, 0, 0, 1, 0, 1);
        Check.due("itself", b.remove(0, 3), true);
        there("itself", b, 0, 0, 0, 0, 0, 0, 1);
    }

    /** "It is refused as FORBIDDEN, if a link that FORBIDS leads to one of those from a row that is not among them" */
    static void rowsThatGoForbidNothing() {
        ClubBase b = tables(2);
        b.addLink(1, 0, FOLLOWS);
        b.addLink(1, 0, FORBIDS);
        b.addLink(1, 1, FORBIDS);
        b.enter(0);
        b.enter(0);
        Club.enter(b, 1, 0, 0);
        Club.enter(b, 1, 0, B, 0);
        Check.due("both rows follow", b.remove(0, 0), true);
        there("both rows follow", b, 1, 0, 0);
        Club.enter(b, 1, 1, 1);
        Club.enter(b, 1, B, B, 2);
        Check.due("one row does not", b.remove(0, 1), false);
        Check.reason("one row does not", b, ClubBase.FORBIDDEN, 1, 3, 2);
        there("nothing goes", b, 1, 0, 0, 1, 1);
        Check.due("nor the row", b.isThere(0, 1), true);
        b.put(1, 3, 2, 3);
        Check.due("it leads to itself", b.remove(1, 3), true);
        Check.due("then it can go", b.remove(0, 1), true);
    }

    /** "the first such cell, by rising tables, rows and columns, is told" */
    static void theFirstCellThatForbidsIsTold() {
        ClubBase b = tables(3);
        for (int t = 0; t < 3; t++) {
            b.addLink(t, 1, FORBIDS);
            b.addLink(t, 1, BLANKS);
            b.addLink(t, 1, FORBIDS);
        }
        Club.enter(b, 1);
        for (int t = 0; t < 3; t++) {
            for (int r = 0; r < 3; r++) Club.enter(b, t, B, 0, B);
        }
        int[][] cells = {{2, 2, 2}, {2, 2, 0}, {2, 1, 2}, {1, 3, 2}, {1, 1, 0}, {0, 2, 2}, {0, 2, 0}, {0, 0, 2}, {0, 0, 0}};
        for (int[] c : cells) {
            b.put(c[0], c[1], c[2], 0);
            Check.due("forbidden", b.remove(1, 0), false);
            Check.reason("forbidden", b, ClubBase.FORBIDDEN, c[0], c[1], c[2]);
        }
        Check.due("nothing is BLANK", b.cell(2, 0, 1), 0);
        for (int[] c : cells) b.put(c[0], c[1], c[2], B);
        Check.due("nothing forbids", b.remove(1, 0), true);
        Check.due("then it is BLANK", b.cell(2, 0, 1), B);
    }

    /** The first cell that forbids can be in any row, the last one, too; thirty cells can become BLANK at once. */
    static void cellsOfThirtyRowsForbidOrBecomeBlank() {
        ClubBase b = tables(3);
        b.addLink(2, 1, FORBIDS);
        b.addNumber(2, 0, 99);
        b.addLink(2, 1, BLANKS);
        Club.enter(b, 1);
        for (int r = 0; r < 30; r++) Club.enter(b, 2, B, r, 0);
        int[] forbidding = {29, 24, 12, 7, 6, 5, 0};
        for (int row : forbidding) {
            b.put(2, row, 0, 0);
            Check.due("forbidden", b.remove(1, 0), false);
            Check.reason("forbidden", b, ClubBase.FORBIDDEN, 2, row, 0);
        }
        for (int row : forbidding) b.put(2, row, 0, B);
        Check.due("nothing forbids", b.remove(1, 0), true);
        for (int r = 0; r < 30; r++) cells("row " + r, b, 2, r, B, r, B);
    }

    /** FORBIDDEN is told ahead of what would be broken. */
    static void forbiddenIsToldAheadOfWhatIsBroken() {
        ClubBase b = tables(2);
        b.addLink(0, 1, BLANKS);
        b.addLink(1, 1, FORBIDS);
        b.enter(1);
        Club.enter(b, 1, 0);
        Club.enter(b, 0, 0);
        b.need(0, 0, true);
        Check.due("both", b.remove(1, 0), false);
        Check.reason("both", b, ClubBase.FORBIDDEN, 1, 1, 0);
        b.put(1, 1, 0, B);
        Check.due("needed", b.remove(1, 0), false);
        Check.reason("needed", b, ClubBase.NEED, 0, 0, 0);
        Check.due("still needed", b.cell(0, 0, 0), 0);
    }

    /** "Cells of rows that stay, of links that BLANKS, and lead to one of those, become BLANK." */
    static void cellsOfRowsThatStayBecomeBlank() {
        ClubBase b = tables(2);
        b.addLink(0, 0, FOLLOWS);
        b.addLink(0, 0, BLANKS);
        b.addLink(1, 0, BLANKS);
        b.addLink(1, 0, BLANKS);
        b.addNumber(1, 0, 9);
        Club.enter(b, 0);
        Club.enter(b, 0, 0);
        Club.enter(b, 0, B, 1);
        Club.enter(b, 0, B, 2);
        Club.enter(b, 1, 0, 1, 0);
        Club.enter(b, 1, 1, 2, 1);
        Club.enter(b, 1, 3, 3, 1);
        Check.due("rows 0 and 1 go", b.remove(0, 0), true);
        there("rows 0 and 1 go", b, 0, 0, 0, 1, 1);
        cells("a link to one of them", b, 0, 2, B, B);
        cells("a link to one that stays", b, 0, 3, B, 2);
        cells("two links to them, and the number 0", b, 1, 0, B, B, 0);
        cells("one link to them", b, 1, 1, B, 2, 1);
        cells("no link to them", b, 1, 2, 3, 3, 1);
    }

    /** A removal can leave a full table without rows, and the tables with the same numbers as they are. */
    static void rowsOfOtherTablesStay() {
        ClubBase b = tables(4);
        for (int t = 0; t < 4; t++) {
            b.addNumber(t, 0, 99);
            for (int r = 0; r < 3; r++) Club.enter(b, t, 10 * t + r);
        }
        b.remove(1, 2);
        b.remove(2, 0);
        there("table 0", b, 0, 1, 1, 1);
        there("table 1", b, 1, 1, 1, 0);
        there("table 2", b, 2, 0, 1, 1);
        there("table 3", b, 3, 1, 1, 1);
        Check.due("the last cell", b.cell(3, 2, 0), 32);
    }

    /** Promise 29: "the lowest such row, from this number on, that is there; -1 if there is none" */
    static void choiceFromANumberOn() {
        ClubBase b = tables(2);
        b.addLink(1, 0, BLANKS);
        b.enter(1);
        Check.due("an empty table", b.choice(1, 0, 0, 0), -1);
        for (int r = 0; r < 30; r++) b.enter(0);
        b.remove(0, 0);
        b.remove(0, 7);
        Check.due("from 0", b.choice(1, 0, 0, 0), 1);
        Check.due("from 1", b.choice(1, 0, 0, 1), 1);
        Check.due("from one that is gone", b.choice(1, 0, 0, 7), 8);
        Check.due("the last", b.choice(1, 0, 0, 29), 29);
        Check.due("behind the last", b.choice(1, 0, 0, 30), -1);
        Check.due("far behind", b.choice(1, 0, 0, Integer.MAX_VALUE), -1);
        b.remove(0, 29);
        Check.due("the last is gone", b.choice(1, 0, 0, 29), -1);
        Check.due("the cell is BLANK still", b.cell(1, 0, 0), B);
    }

    /** Promise 29: "a row that could be put into a cell of a link without being refused" */
    static void choiceOfWhatCouldBePut() {
        ClubBase b = tables(2);
        b.addNumber(0, 0, 9);
        b.addLink(1, 0, BLANKS);
        b.addNumber(1, 0, 9);
        b.addReckoned(1, ClubBase.LOOK, 0, 0, 0);
        b.addRule(1, 2, ClubBase.UNLIKE, 1, 0);
        for (int r = 0; r < 4; r++) Club.enter(b, 0, r);
        Club.enter(b, 1, 0, 3);
        Club.enter(b, 1, 1, 0);
        Check.due("its own cell", b.choice(1, 0, 0, 0), 0);
        Check.due("a rule", b.choice(1, 0, 0, 3), -1);
        Check.due("a rule, for the first", b.choice(1, 1, 0, 0), 1);
        b.single(1, 0, true);
        Check.due("single, its own", b.choice(1, 0, 0, 0), 0);
        Check.due("single, that of the other is left out", b.choice(1, 0, 0, 1), 2);
        Check.due("single and a rule", b.choice(1, 0, 0, 3), -1);
        Check.due("put in turn", b.put(1, 0, 0, b.choice(1, 0, 0, 1)), true);
        Check.due("not what is left out", b.put(1, 0, 0, 3), false);
        b.need(1, 0, true);
        Check.due("needed", b.choice(1, 1, 0, 0), 1);
    }

    /** Promise 29: "The reason stays as it is", and all else. */
    static void choiceChangesNothing() {
        ClubBase b = tables(1);
        b.addLink(0, 0, FOLLOWS);
        b.addReckoned(0, ClubBase.COUNT, 0, 0, 0);
        b.enter(0);
        Club.enter(b, 0, 0);
        b.addRule(0, 1, ClubBase.UNLIKE, 1, 1);
        b.addAct();
        b.run(0);
        b.put(0, 0, 0, -5);
        for (int from = 0; from < 3; from++) {
            Check.due("from " + from, b.choice(0, 1, 0, from), from < 2 ? from : -1);
            Check.reason("from " + from, b, ClubBase.LINK, 0, 0, 0);
            cells("from " + from, b, 0, 1, 0, 0);
            cells("from " + from, b, 0, 0, B, 1);
        }
        Check.due("can be taken back", b.undoable(), 1);
    }

    /** Promise 31: "any number"; numbers beyond a table do not reach into the next one. */
    static void isThereOfAnyNumber() {
        ClubBase b = tables(4);
        for (int t = 0; t < 4; t++) {
            for (int r = 0; r < 30; r++) b.enter(t);
        }
        int[] none = {Integer.MIN_VALUE, -31, -30, -1, 30, 31, 60, Integer.MAX_VALUE};
        for (int t = 0; t < 4; t++) {
            for (int row : none) Check.due("row " + row, b.isThere(t, row), false);
            Check.due("row 0", b.isThere(t, 0), true);
            Check.due("row 29", b.isThere(t, 29), true);
        }
    }

    /** Promise 32: "how many rows were made in a table, those that were taken back with an act not counted" */
    static void rowsCountsWhatWasMade() {
        ClubBase b = Club.small();
        Check.due("none", b.rows(0), 0);
        b.enter(0);
        b.enter(0);
        b.remove(0, 1);
        Check.due("a removed one counts", b.rows(0), 2);
        Club.enter(b, 0, 77);
        Check.due("a refused one does not", b.rows(0), 2);
        b.clearDraft();
        b.addAct();
        for (int n = 0; n < 3; n++) b.stepAdd(0, 0);
        b.run(0);
        Check.due("three of an act", b.rows(0), 5);
        b.run(0);
        b.undo();
        Check.due("three were taken back", b.rows(0), 5);
        b.type(0, 77);
        b.stepAdd(0, 0);
        b.run(0);
        Check.due("those of a refused act were taken back, too", b.rows(0), 5);
        b.undo();
        Check.due("all were taken back", b.rows(0), 2);
        Check.due("the next number", Club.enter(b, 0), 2);
    }

    public static void main(String[] args) {
        Check.methods(RowsEdgeTest.class);
    }
}
