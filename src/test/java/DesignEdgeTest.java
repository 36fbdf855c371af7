/** The bounds that promises 5 to 16 name: designs that are changed over filled tables. */
public final class DesignEdgeTest {
    private static final int B = ClubBase.BLANK;
    private static final int ADD = ClubBase.ADD, TIMES = ClubBase.TIMES, LOOK = ClubBase.LOOK, TOTAL = ClubBase.TOTAL, COUNT = ClubBase.COUNT;

    private static ClubBase club(Check.Calls setup) {
        ClubBase b = new ClubBase();
        setup.on(b);
        return b;
    }

    /** A table with one number column from -9999 to 9999 and these cells in it. */
    private static ClubBase numbers(int... cells) {
        ClubBase b = new ClubBase();
        b.addTable();
        b.addNumber(0, -9999, 9999);
        for (int cell : cells) Club.enter(b, 0, cell);
        return b;
    }

    private static void column(String what, ClubBase b, int column, int... due) {
        for (int r = 0; r < due.length; r++) Check.due(what + ": row " + r, b.cell(0, r, column), due[r]);
    }

    /** Promise 9: "how many cells of rows that are there", "would become BLANK by narrow()" */
    static void wouldLoseCountsWhatNarrowBlanks() {
        int[][] ranges = {{-5, 5}, {-4, 5}, {-5, 4}, {-4, 4}, {0, 0}, {1, 1}, {6, 9999}, {-9999, -6}, {5, 5}, {-9999, 9999}, {9999, 9999}};
        int[] cells = {-5, 5, B, 0, 5, -5, 4};
        for (int[] range : ranges) {
            ClubBase b = numbers(cells);
            b.remove(0, 5);
            int lost = 0;
            for (int r = 0; r < cells.length; r++) {
                if (r != 5 && cells[r] != B && (cells[r] < range[0] || cells[r] > range[1])) lost++;
            }
            String what = "from " + range[0] + " to " + range[1];
            Check.due(what + ": wouldLose", b.wouldLose(0, 0, range[0], range[1]), lost);
            Check.due(what + ": all are there still", b.wouldLoseAll(0, 0), 5);
            Check.due(what + ": narrow", b.narrow(0, 0, range[0], range[1]), true);
            Check.due(what + ": left", b.wouldLoseAll(0, 0), 5 - lost);
            Check.due(what + ": no more would be lost", b.wouldLose(0, 0, range[0], range[1]), 0);
        }
    }

    /** Promise 9, of a full table and of an empty one */
    static void wouldLoseOfThirtyAndOfNone() {
        ClubBase b = numbers();
        Check.due("none", b.wouldLose(0, 0, 0, 0), 0);
        Check.due("none at all", b.wouldLoseAll(0, 0), 0);
        for (int r = 0; r < 30; r++) Club.enter(b, 0, 1);
        Check.due("thirty", b.wouldLose(0, 0, 0, 0), 30);
        Check.due("none of thirty", b.wouldLose(0, 0, 1, 1), 0);
        Check.due("all thirty", b.wouldLoseAll(0, 0), 30);
        Check.due("narrow", b.narrow(0, 0, 0, 0), true);
        column("thirty BLANK cells", b, 0, blanks(30));
    }

    private static int[] blanks(int count) {
        int[] all = new int[count];
        java.util.Arrays.fill(all, B);
        return all;
    }

    /** Promise 10: "cells of rows that are there, with a number that is not from the one to the other, become BLANK" */
    static void narrowBlanksWhatIsOutside() {
        ClubBase b = numbers(-6, -5, 0, 5, 6, B);
        b.addNumber(0, -9999, 9999);
        b.put(0, 0, 1, 77);
        b.addReckoned(0, ADD, 0, 0, 0);
        Check.due("narrow", b.narrow(0, 0, -5, 5), true);
        column("the ends stay", b, 0, B, -5, 0, 5, B, B);
        column("what uses it", b, 2, B, -10, 0, 10, B, B);
        column("another column stays", b, 1, 77, B, B, B, B, B);
        Check.due("below", b.put(0, 0, 0, -6), false);
        Check.due("above", b.put(0, 0, 0, 6), false);
        Check.due("least", b.put(0, 0, 0, -5), true);
        Check.due("most", b.put(0, 0, 0, 5), true);
        Check.due("the column beside it", b.put(0, 0, 1, -9999) && b.put(0, 0, 1, 9999), true);
        Check.due("wider", b.narrow(0, 0, -9999, 9999), true);
        column("nothing comes back", b, 0, 5, -5, 0, 5, B, B);
        Check.due("the widest", b.put(0, 0, 0, -9999) && b.put(0, 0, 0, 9999), true);
    }

    /** Promise 10: "It is refused if something would be broken": the old least and greatest numbers stay. */
    static void aRefusedNarrowKeepsTheRange() {
        ClubBase b = numbers(3, 8);
        b.narrow(0, 0, 0, 9);
        b.need(0, 0, true);
        Check.due("the lower cell is needed", b.narrow(0, 0, 4, 20), false);
        Check.reason("the lower cell", b, ClubBase.NEED, 0, 0, 0);
        Check.due("the upper cell is needed", b.narrow(0, 0, -5, 7), false);
        Check.reason("the upper cell", b, ClubBase.NEED, 0, 1, 0);
        column("as they were", b, 0, 3, 8);
        Check.due("below the old least", b.put(0, 0, 0, -1), false);
        Check.due("above the old most", b.put(0, 0, 0, 10), false);
        Check.due("the old least", b.put(0, 0, 0, 0), true);
        Check.due("the old most", b.put(0, 0, 0, 9), true);
        Check.due("just wide enough", b.narrow(0, 0, 8, 9), true);
    }

    /** Promise 11: "how many cells of rows that are there are not BLANK"; 0 is not. */
    static void wouldLoseAllCountsWhatIsNotBlank() {
        ClubBase b = numbers(0, B, -1, 0);
        b.addReckoned(0, ADD, 0, 0, 0);
        b.addLink(0, 0, ClubBase.BLANKS);
        b.addReckoned(0, COUNT, 2, 0, 0);
        b.put(0, 3, 2, 0);
        Check.due("numbers", b.wouldLoseAll(0, 0), 3);
        Check.due("sums", b.wouldLoseAll(0, 1), 3);
        Check.due("links", b.wouldLoseAll(0, 2), 1);
        Check.due("counts", b.wouldLoseAll(0, 3), 4);
        b.remove(0, 0);
        Check.due("numbers left", b.wouldLoseAll(0, 0), 2);
        Check.due("links left", b.wouldLoseAll(0, 2), 0);
        Check.due("counts left", b.wouldLoseAll(0, 3), 3);
        b.drop(0, 1);
        Check.due("dropped", b.wouldLoseAll(0, 1), 0);
    }

    /** Two tables. 0: numbers 0 and 1, a link 2 to itself, a number 3. 1: a link 0 to table 0, a number 1. */
    private static void two(ClubBase b) {
        b.addTable();
        b.addTable();
        b.addNumber(0, 0, 9);
        b.addNumber(0, 0, 9);
        b.addLink(0, 0, ClubBase.BLANKS);
        b.addNumber(0, 0, 9);
        b.addLink(1, 0, ClubBase.BLANKS);
        b.addNumber(1, 0, 9);
        Club.enter(b, 0, 1, 2, 0, 3);
        Club.enter(b, 1, 0, 4);
    }

    /** Which of the columns 0 to 3 of table 0, 4 and 5 for those of table 1, are in use after these calls; each on its own. */
    private static void usedAre(String what, Check.Calls calls, int... used) {
        for (int c = 0; c < 6; c++) {
            boolean is = false;
            for (int u : used) is |= u == c;
            int table = c / 4;
            int column = c % 4;
            Check.Calls setup = x -> { two(x); calls.on(x); };
            if (is) {
                Check.refused(what + ": " + table + ", " + column, setup, x -> x.drop(table, column), ClubBase.USED, table, -1, column);
            } else {
                Check.due(what + ": " + table + ", " + column, club(setup).drop(table, column), true);
            }
        }
    }

    /** Promise 12: "refused as USED ... if a formula uses it"; what does not matter for a formula is not used. */
    static void aColumnThatAFormulaUses() {
        usedAre("nothing", x -> { });
        usedAre("ADD", x -> x.addReckoned(0, ADD, 0, 1, 3), 0, 1);
        usedAre("TIMES of one column", x -> x.addReckoned(0, TIMES, 3, 3, 0), 3);
        usedAre("LOOK in its own table", x -> x.addReckoned(0, LOOK, 2, 1, 0), 2, 1);
        usedAre("LOOK at its own link", x -> x.addReckoned(0, LOOK, 2, 2, 0), 2);
        usedAre("LOOK at another table", x -> x.addReckoned(1, LOOK, 0, 3, 1), 4, 3);
        usedAre("TOTAL of another table", x -> x.addReckoned(0, TOTAL, 0, 1, 1), 4, 5);
        usedAre("TOTAL of its own table", x -> x.addReckoned(0, TOTAL, 2, 3, 0), 2, 3);
        usedAre("COUNT", x -> x.addReckoned(0, COUNT, 0, 1, 1), 4);
        usedAre("COUNT in its own table", x -> x.addReckoned(0, COUNT, 2, 0, 0), 2);
        usedAre("two formulas", x -> { x.addReckoned(0, ADD, 0, 0, 0); x.addReckoned(1, TIMES, 1, 1, 0); }, 0, 5);
    }

    /** Promise 12: a formula that is no more uses nothing. */
    static void aFormulaThatIsNoMoreUsesNothing() {
        usedAre("another formula", x -> { x.addReckoned(0, ADD, 0, 1, 0); x.reckonAnew(0, 4, TIMES, 3, 1, 0); }, 1, 3);
        usedAre("a refused formula", x -> { x.addReckoned(0, ADD, 0, 1, 0); x.reckonAnew(0, 4, TIMES, 3, 4, 0); }, 0, 1);
        usedAre("a dropped formula", x -> { x.addReckoned(0, TOTAL, 0, 1, 1); x.drop(0, 4); });
        usedAre("a dropped formula that looked", x -> { x.addReckoned(0, LOOK, 2, 1, 0); x.drop(0, 4); });
        ClubBase b = club(DesignEdgeTest::two);
        b.addReckoned(0, ADD, 0, 1, 0);
        b.addReckoned(0, ADD, 4, 3, 0);
        Check.due("a reckoned column is used, too", b.drop(0, 4), false);
        Check.reason("a reckoned column is used, too", b, ClubBase.USED, 0, -1, 4);
        Check.due("the one that uses it", b.drop(0, 5), true);
        Check.due("then that", b.drop(0, 4), true);
        Check.due("then what it used", b.drop(0, 0), true);
    }

    /** Promise 12: "a rule that was not dropped is for it" */
    static void aColumnThatARuleIsFor() {
        usedAre("a rule", x -> x.addRule(0, 0, ClubBase.UNLIKE, 3, 0), 0, 3);
        usedAre("a rule for one column", x -> x.addRule(1, 1, ClubBase.BOTH, 1, 0), 5);
        usedAre("a rule that was dropped", x -> { x.addRule(0, 0, ClubBase.UNLIKE, 3, 0); x.dropRule(0); });
        usedAre("the second of two rules", x -> { x.addRule(0, 0, 2, 3, 0); x.addRule(0, 1, 2, 3, 0); x.dropRule(0); }, 1, 3);
        usedAre("a refused rule", x -> x.addRule(0, 0, ClubBase.ALIKE, 3, 0));
        usedAre("eight rules", x -> { for (int n = 0; n < 7; n++) x.addRule(0, 0, 3, 0, 0); x.addRule(0, 1, 3, 1, 0); }, 0, 1);
    }

    /** Promise 12: "a join ... of a question is it or comes from it" */
    static void aColumnThatIsAJoin() {
        usedAre("a question without a join", x -> x.ask(0, -1));
        usedAre("a join", x -> x.ask(0, 2), 2);
        usedAre("a join over a question", x -> { x.ask(0, -1); x.ask(10, 2); }, 2);
        usedAre("a join of a joined column", x -> { x.ask(1, 0); x.ask(10, 4); }, 4, 2);
        usedAre("columns that are joined alone", x -> x.ask(1, 0), 4);
    }

    /** Promise 12: "a condition ... of a question is it or comes from it" */
    static void aColumnThatHasACondition() {
        for (int relation = 0; relation < 4; relation++) {
            int sort = relation;
            usedAre("a condition", x -> { x.ask(0, -1); x.condition(0, 2, 3, sort, 0); }, 3);
        }
        usedAre("a condition over two questions", x -> { x.ask(0, -1); x.ask(10, -1); x.ask(11, -1); x.condition(2, 0, 1, 0, 1); }, 1);
        usedAre("a condition for a joined column", x -> { x.ask(1, 0); x.condition(0, 0, 5, 0, 1); }, 4, 3);
        usedAre("six conditions", x -> { x.ask(1, -1); for (int n = 0; n < 5; n++) x.condition(0, 0, 0, 0, 0); x.condition(0, 0, 1, 0, 0); }, 4, 5);
        usedAre("a condition of the eighth question", x -> { for (int n = 0; n < 8; n++) x.ask(0, -1); x.condition(7, 0, 0, 0, 0); }, 0);
    }

    /** Promise 12: "a key or a value of a question is it or comes from it" */
    static void aColumnThatIsAKeyOrAValue() {
        usedAre("groups", x -> x.askGroups(0, 0, 3), 0, 3);
        usedAre("groups of one column", x -> x.askGroups(1, 1, 1), 5);
        usedAre("a cross", x -> x.askCross(0, 0, 1, 3), 0, 1, 3);
        usedAre("groups over a question", x -> { x.ask(0, -1); x.ask(10, -1); x.askGroups(11, 1, 2); }, 1, 2);
        usedAre("a cross over a question", x -> { x.ask(0, -1); x.askCross(10, 3, 2, 1); }, 1, 2, 3);
        usedAre("groups over a join", x -> { x.ask(1, 0); x.askGroups(10, 2, 5); }, 4, 0, 3);
        usedAre("a cross over a join", x -> { x.ask(1, 0); x.askCross(10, 2, 3, 5); }, 4, 0, 1, 3);
    }

    /** Promise 12: what comes from a grouped question comes from no column; the numbers of its columns are others. */
    static void columnsOfGroupsComeFromNone() {
        usedAre("groups of groups", x -> { x.askGroups(0, 0, 0); x.askGroups(10, 1, 2); }, 0);
        usedAre("a cross of groups", x -> { x.askGroups(0, 0, 0); x.askCross(10, 1, 2, 3); }, 0);
        usedAre("a condition over groups", x -> { x.askGroups(0, 0, 0); x.ask(10, -1); x.condition(1, 0, 3, 0, 0); x.condition(1, 0, 1, 0, 0); }, 0);
    }

    /** Promise 12: a step, a form or a question that only shows it does not use a column. */
    static void whatDoesNotUseAColumn() {
        usedAre("steps", x -> { x.ask(0, -1); x.addAct(); x.stepPut(0, 0, 1, 1); x.stepRemove(0, 0, 3); x.stepIf(0, 0, 1); });
        usedAre("a form", x -> { x.openForm(0, 0); x.enterInside(1, 0); });
        usedAre("a needed and single column", x -> { x.need(0, 0, true); x.single(0, 0, true); });
    }

    /** Promise 12: "Returns whether it is not refused"; a needed column that was dropped is needed no more. */
    static void aDroppedColumnIsNotNeeded() {
        ClubBase b = club(DesignEdgeTest::two);
        b.need(0, 0, true);
        b.need(0, 2, true);
        Check.due("needed", Club.enter(b, 0), -1);
        Check.due("a number", b.drop(0, 0), true);
        Check.reason("dropped", b, 0, -1, -1, -1);
        Check.due("a link", b.drop(0, 2), true);
        Check.due("an empty row", Club.enter(b, 0), 1);
        Check.due("a link that was dropped forbids, follows and blanks nothing", b.remove(0, 0), true);
    }

    /** Promise 12: all thirty cells become BLANK, those of the columns beside it stay. */
    static void droppingOfThirtyCells() {
        ClubBase b = numbers();
        b.addNumber(0, -9999, 9999);
        b.addNumber(0, -9999, 9999);
        for (int r = 0; r < 30; r++) Club.enter(b, 0, r, 100 + r, 200 + r);
        Check.due("would be lost", b.wouldLoseAll(0, 1), 30);
        Check.due("dropped", b.drop(0, 1), true);
        column("thirty BLANK cells", b, 1, blanks(30));
        Check.due("nothing is left", b.wouldLoseAll(0, 1), 0);
        for (int r = 0; r < 30; r++) Check.due("beside row " + r, b.cell(0, r, 2) - b.cell(0, r, 0), 200);
    }

    /** Promise 13: "Returns what it did before"; each to each other one and to itself. */
    static void setRemovalTellsWhatItDidBefore() {
        for (int before = 0; before < 3; before++) {
            for (int after = 0; after < 3; after++) {
                ClubBase b = new ClubBase();
                b.addTable();
                b.addLink(0, 0, before);
                Club.enter(b, 0);
                Club.enter(b, 0, 0);
                Check.due("from " + before + " to " + after, b.setRemoval(0, 0, after), before);
                Check.due("it forbids", b.remove(0, 0), after != ClubBase.FORBIDS);
                Check.due("it follows", b.isThere(0, 1), after != ClubBase.FOLLOWS);
                Check.due("what it does now", b.setRemoval(0, 0, before), after);
            }
        }
    }

    /** Promise 6: CIRCLE comes ahead of what would be broken; "otherwise if something would be broken". */
    static void aCircleIsToldAheadOfWhatIsBroken() {
        ClubBase b = club(Club::all);
        Check.due("totals of places", b.reckonAnew(0, 2, TOTAL, 0, 3, 1), false);
        Check.reason("50 and 40 are above 50 and 20", b, ClubBase.RULE, 0, 1, 0);
        b.dropRule(0);
        Check.due("no rule", b.reckonAnew(0, 2, TOTAL, 0, 3, 1), true);
        b.addRule(1, 3, ClubBase.UNLIKE, 1, 46);
        Check.due("a circle and a rule", b.reckonAnew(1, 3, LOOK, 0, 2, 0), false);
        Check.reason("a circle and a rule", b, ClubBase.CIRCLE, 1, -1, 3);
        Check.due("the rule alone", b.reckonAnew(1, 3, LOOK, 0, 3, 0), true);
        Check.due("the same formula again", b.reckonAnew(1, 3, LOOK, 0, 3, 0), true);
        column("totals of counts", b, 2, 1, 4, 0);
    }

    /** Promise 6: what is refused keeps its old formula, for all rows to come. */
    static void aRefusedFormulaKeepsTheOldOne() {
        ClubBase b = numbers(3, 4);
        b.addNumber(0, 0, 9);
        b.addReckoned(0, TIMES, 0, 0, 0);
        b.addRule(0, 2, ClubBase.AT_MOST, 0, 12);
        Check.due("refused", b.reckonAnew(0, 2, TIMES, 2, 0, 0), false);
        Check.reason("refused", b, ClubBase.CIRCLE, 0, -1, 2);
        b.addReckoned(0, ADD, 2, 0, 0);
        Check.due("refused again", b.reckonAnew(0, 2, ADD, 3, 0, 0), false);
        Check.due("broken", b.addRule(0, 3, ClubBase.AT_MOST, 0, 15), -1);
        Check.due("not broken", b.addRule(0, 3, ClubBase.AT_MOST, 0, 16), 1);
        Check.due("refused by a rule", b.reckonAnew(0, 3, TIMES, 2, 0, 0), false);
        Check.reason("refused by a rule", b, ClubBase.RULE, 0, 0, 1);
        Club.enter(b, 0, 2);
        column("the old product", b, 2, 9, 16, 4);
        column("the old sum", b, 3, 12, 20, 6);
        Check.due("the order", b.order(0), 2);
        Check.due("the order, too", b.order(1), 3);
    }

    /** Promises 7 and 8: "from now on": is it false, it is so no more; neither is undone by asking twice. */
    static void neededAndSingleNoMore() {
        ClubBase b = numbers(1);
        for (int n = 0; n < 2; n++) Check.due("needed", b.need(0, 0, true), true);
        Check.due("held", Club.enter(b, 0), -1);
        for (int n = 0; n < 2; n++) Check.due("no more", b.need(0, 0, false), true);
        Check.due("not held", Club.enter(b, 0), 1);
        for (int n = 0; n < 2; n++) Check.due("single", b.single(0, 0, true), true);
        Check.due("held, too", Club.enter(b, 0, 1), -1);
        Check.due("needed is refused, single stays", b.need(0, 0, true), false);
        Check.due("held still", Club.enter(b, 0, 1), -1);
        Check.due("not needed still", Club.enter(b, 0), 2);
        for (int n = 0; n < 2; n++) Check.due("no more", b.single(0, 0, false), true);
        Check.due("not held, either", Club.enter(b, 0, 1), 3);
        Check.due("single is refused", b.single(0, 0, true), false);
        Check.due("not single still", Club.enter(b, 0, 1), 4);
    }

    /** Promise 14: a rule over an empty table is not refused, whatever it asks; rows that were removed do not count. */
    static void aRuleOverNoRows() {
        ClubBase b = Club.small();
        Check.due("that no row can hold", b.addRule(0, 0, ClubBase.UNLIKE, 0, 0), 0);
        Check.due("BLANK holds it", Club.enter(b, 0), 0);
        Check.due("a number does not", Club.enter(b, 0, 0), -1);
        b.dropRule(0);
        Club.enter(b, 0, 0);
        Check.due("over a row", b.addRule(0, 0, ClubBase.UNLIKE, 0, 0), -1);
        b.remove(0, 1);
        Check.due("over none again", b.addRule(0, 0, ClubBase.UNLIKE, 0, 0), 1);
    }

    /** Promise 15: each of eight rules can be dropped, once. */
    static void eachOfEightRulesCanBeDropped() {
        ClubBase b = Club.small();
        for (int rule = 0; rule < 8; rule++) b.addRule(0, 0, ClubBase.AT_MOST, 1, 0);
        for (int rule = 7; rule >= 0; rule--) {
            int one = rule;
            Check.due("held by " + (rule + 1), Club.enter(b, 0, 1, 0), -1);
            Check.reason("held by the first", b, ClubBase.RULE, 0, 0, 0);
            b.dropRule(rule);
            Check.thrown("dropped", Check.INDEX, b, x -> x.dropRule(one));
        }
        Check.due("held by none", Club.enter(b, 0, 1, 0), 0);
    }

    /** Promise 16: no reckoned column, no place; a dropped one has none, either. */
    static void orderOfNone() {
        ClubBase b = numbers(1);
        Check.thrown("none", Check.INDEX, b, x -> x.order(0));
        b.addReckoned(0, ADD, 0, 0, 0);
        Check.due("one", b.order(0), 1);
        Check.thrown("one alone", Check.INDEX, b, x -> x.order(1));
        b.drop(0, 1);
        Check.thrown("none again", Check.INDEX, b, x -> x.order(0));
        b.addReckoned(0, ADD, 0, 0, 0);
        Check.due("the next", b.order(0), 2);
    }

    public static void main(String[] args) {
        Check.methods(DesignEdgeTest.class);
    }
}
