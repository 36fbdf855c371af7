/** The sentences of "Terms", ACTS, and of promises 43 to 50 that name a bound. */
public final class ActsEdgeTest {
    private static final int B = ClubBase.BLANK;

    private static ClubBase club(Check.Calls setup) {
        ClubBase b = new ClubBase();
        setup.on(b);
        return b;
    }

    /** Column 0 is a number from 0 to 9, column 1 a link to the table itself; question 0 is of all rows, act 0 has no steps. */
    private static ClubBase rows(int removal, int... links) {
        ClubBase b = new ClubBase();
        b.addTable();
        b.addNumber(0, 0, 9);
        b.addLink(0, 0, removal);
        for (int r = 0; r < links.length; r++) Club.enter(b, 0, r % 10);
        for (int r = 0; r < links.length; r++) b.put(0, r, 1, links[r]);
        b.clearDraft();
        b.ask(0, -1);
        b.addAct();
        return b;
    }

    private static void column(String what, ClubBase b, int column, int... due) {
        for (int r = 0; r < due.length; r++) Check.due(what + ": row " + r, b.cell(0, r, column), due[r]);
    }

    private static void there(String what, ClubBase b, int... due) {
        for (int r = 0; r < due.length; r++) Check.due(what + ": row " + r, b.isThere(0, r), due[r] == 1);
    }

    private static void no(String what, boolean got, ClubBase b, int... due) {
        Check.due(what, got, false);
        Check.reason(what, b, due[0], due[1], due[2], due[3]);
    }

    /** "Acts are numbered from 0; at most 4 are made." */
    static void atMost4Acts() {
        ClubBase b = new ClubBase();
        for (int a = 0; a < 4; a++) {
            int next = a;
            Check.thrown("not made yet", Check.INDEX, b, x -> x.run(next));
            Check.due("act", b.addAct(), a);
        }
        Check.thrown("a fifth", Check.STATE, b, ClubBase::addAct);
        Check.thrown("none", Check.INDEX, b, x -> x.run(4));
        Check.due("the last", b.run(3), true);
    }

    /** "An act has steps, at most 6, which are done one after the other": of all kinds together, in each act. */
    static void atMost6Steps() {
        ClubBase b = rows(ClubBase.BLANKS, B);
        for (int a = 1; a < 4; a++) b.addAct();
        for (int a = 0; a < 4; a++) {
            int act = a;
            Check.due("first", b.stepPut(a, 0, 0, 1), 1);
            Check.due("second", b.stepAdd(a, 0), 2);
            Check.due("third", b.stepIf(a, 0, 1), 3);
            Check.due("fourth", b.stepRemove(a, 0, 0), 4);
            Check.due("fifth", b.stepPut(a, 0, 0, 2), 5);
            Check.due("sixth", b.stepAdd(a, 0), 6);
            Check.thrown("a seventh PUT", Check.STATE, b, x -> x.stepPut(act, 0, 0, 1));
            Check.thrown("a seventh ADD", Check.STATE, b, x -> x.stepAdd(act, 0));
            Check.thrown("a seventh REMOVE", Check.STATE, b, x -> x.stepRemove(act, 0, 0));
            Check.thrown("a seventh IF", Check.STATE, b, x -> x.stepIf(act, 0, 1));
        }
        Check.due("all six are done", b.run(3), true);
        Check.due("two rows were made", b.rows(0), 3);
        there("the last one is there", b, 0, 0, 1);
    }

    /** "done one after the other": each finds what those ahead of it have left. */
    static void stepsAreDoneOneAfterTheOther() {
        ClubBase b = rows(ClubBase.BLANKS, B, B);
        for (int n = 0; n < 6; n++) {
            b.ask(0, -1);
            b.condition(n + 1, 0, 0, ClubBase.IS, n);
            b.stepPut(0, n + 1, 0, n + 1);
        }
        Check.due("done", b.run(0), true);
        column("step after step", b, 0, 6, 6);
    }

    /** "for each answer of a question, as they are when the step begins, in order": what is written can leave answers out. */
    static void putWritesToTheAnswersOfItsBeginning() {
        ClubBase b = rows(ClubBase.BLANKS, B, B, B, B);
        b.condition(0, 0, 0, ClubBase.MOST, 2);
        b.stepPut(0, 0, 0, 7);
        Check.due("done", b.run(0), true);
        column("all three, not the fourth", b, 0, 7, 7, 7, 3);
        ClubBase join = rows(ClubBase.BLANKS, 1, 2, 3, B);
        join.ask(0, 1);
        join.stepPut(0, 1, 1, 0);
        Check.due("the link of the join", join.run(0), true);
        column("the link of the join", join, 1, 0, 0, 0, B);
        join.stepPut(0, 1, 2, 9);
        Check.due("the joined rows are those that the first step made", join.run(0), true);
        column("row 0 alone", join, 0, 9, 1, 2, 3);
    }

    /** PUT of no answers, of thirty, of BLANK; a cell that is written twice. */
    static void putOfNoneAndOfThirty() {
        ClubBase b = rows(ClubBase.BLANKS);
        b.stepPut(0, 0, 0, 10);
        Check.due("none of which is refused", b.run(0), true);
        b.addAct();
        b.stepPut(1, 0, 0, 9);
        for (int r = 0; r < 30; r++) Club.enter(b, 0, B, 0);
        Check.due("thirty", b.run(1), true);
        for (int r = 0; r < 30; r++) Check.due("row " + r, b.cell(0, r, 0), 9);
        b.ask(0, 1);
        b.addAct();
        b.stepPut(2, 1, 2, B);
        Check.due("one row, thirty times", b.run(2), true);
        column("BLANK", b, 0, B, 9);
        no("the first of thirty is refused", b.run(0), b, ClubBase.RANGE, 0, 0, 0);
    }

    /** "Each of these changes is refused as if it was made by itself": PUT to a single column holds for one answer only. */
    static void eachPutIsRefusedByItself() {
        ClubBase b = rows(ClubBase.BLANKS, B, B, B);
        b.single(0, 0, true);
        b.stepPut(0, 0, 0, 5);
        no("the second", b.run(0), b, ClubBase.SINGLE, 0, 1, 0);
        column("taken back", b, 0, 0, 1, 2);
        b.addAct();
        b.stepPut(1, 0, 0, 1);
        no("the first, told at the second", b.run(1), b, ClubBase.SINGLE, 0, 1, 0);
        b.addAct();
        b.stepPut(2, 0, 0, B);
        Check.due("BLANK", b.run(2), true);
        b.undo();
        b.addRule(0, 0, ClubBase.BOTH, 1, 0);
        Check.due("one rule", b.reason(), ClubBase.RULE);
        b.remove(0, 2);
        b.condition(0, 0, 0, ClubBase.IS, 0);
        Check.due("one answer", b.run(0), true);
        column("one answer", b, 0, 5, 1);
    }

    /** "a row with the cells that the draft had when the step was made is entered into a table" */
    static void addTakesTheDraftOfItsMaking() {
        ClubBase b = rows(ClubBase.BLANKS);
        for (int n = 0; n < 6; n++) {
            b.type(0, n == 5 ? B : n);
            b.type(1, n % 2 == 0 ? B : n);
            Check.due("step", b.stepAdd(0, 0), n + 1);
        }
        b.type(0, 9);
        Check.due("done", b.run(0), true);
        column("numbers", b, 0, 0, 1, 2, 3, 4, B);
        column("links to themselves", b, 1, B, 1, B, 3, B, 5);
        Check.due("the draft stays", b.type(0, 8), 9);
        Check.due("the draft stays, too", b.type(1, B), 5);
        Check.due("done again", b.run(0), true);
        Check.due("the same numbers", b.cell(0, 10, 0), 4);
        Check.due("the same links", b.cell(0, 11, 1), 5);
    }

    /** ADD with all six cells typed: those of columns that are no stored ones when it is done are left out. */
    static void addFillsTheStoredColumnsOfItsDoing() {
        ClubBase b = rows(ClubBase.BLANKS);
        for (int c = 0; c < 6; c++) b.type(c, c == 1 ? 0 : c + 1);
        b.stepAdd(0, 0);
        b.drop(0, 0);
        b.addNumber(0, 0, 9);
        b.addReckoned(0, ClubBase.ADD, 2, 2, 0);
        b.addNumber(0, 0, 9);
        Check.due("done", b.run(0), true);
        int[] due = {B, 0, 3, 6, 5};
        for (int c = 0; c < due.length; c++) Check.due("cell " + c, b.cell(0, 0, c), due[c]);
        b.addNumber(0, 0, 4);
        no("a later column that the draft does not fit", b.run(0), b, ClubBase.RANGE, 0, 1, 5);
    }

    /** "When it is done, and 30 rows were made in the table, it is refused as FULL, with the table"; the step can be made. */
    static void addToAFullTable() {
        ClubBase b = rows(ClubBase.BLANKS);
        b.stepAdd(0, 0);
        for (int r = 0; r < 29; r++) b.enter(0);
        Check.due("row 29", b.run(0), true);
        no("full", b.run(0), b, ClubBase.FULL, 0, -1, -1);
        b.undo();
        b.remove(0, 28);
        b.stepAdd(0, 0);
        no("one place for two", b.run(0), b, ClubBase.FULL, 0, -1, -1);
        Check.due("the first was taken back", b.rows(0), 29);
        b.enter(0);
        b.type(0, 77);
        b.addAct();
        Check.due("a step for a full table", b.stepAdd(1, 0), 1);
        no("full ahead of what would be broken", b.run(1), b, ClubBase.FULL, 0, -1, -1);
        b.addTable();
        b.addAct();
        b.stepAdd(2, 1);
        Check.due("another table is not full", b.run(2), true);
        b.remove(0, 29);
        no("removed rows count", b.run(1), b, ClubBase.FULL, 0, -1, -1);
    }

    /** "for each answer of a question, as they are when the step begins, in order, the row ... is removed, if it is there still" */
    static void removeLeavesOutWhatIsGone() {
        ClubBase b = rows(ClubBase.FOLLOWS, B, 0, 1, B, 3);
        b.stepRemove(0, 0, 1);
        Check.due("all, three of which follow", b.run(0), true);
        there("all", b, 0, 0, 0, 0, 0);
        b.undo();
        b.condition(0, 0, 0, ClubBase.LEAST, 3);
        Check.due("the last two, one of which follows", b.run(0), true);
        there("the last two", b, 1, 1, 1, 0, 0);
        b.undo();
        there("all again", b, 1, 1, 1, 1, 1);
        ClubBase join = rows(ClubBase.BLANKS, 4, 4, 4, 4, B);
        join.ask(0, 1);
        join.stepRemove(0, 1, 3);
        Check.due("one row, four times", join.run(0), true);
        there("the joined row", join, 1, 1, 1, 1, 0);
        column("its links", join, 1, B, B, B, B);
    }

    /** "in order", each "refused as if it was made by itself": a row that is removed later in the step forbids still. */
    static void removeGoesInOrder() {
        ClubBase down = rows(ClubBase.FORBIDS, B, 0, 1);
        down.stepRemove(0, 0, 0);
        no("the first is forbidden by the second", down.run(0), down, ClubBase.FORBIDDEN, 0, 1, 1);
        there("nothing goes", down, 1, 1, 1);
        ClubBase up = rows(ClubBase.FORBIDS, 1, 2, B);
        up.stepRemove(0, 0, 0);
        Check.due("the first forbids the second, and goes first", up.run(0), true);
        there("all go", up, 0, 0, 0);
        ClubBase half = rows(ClubBase.FORBIDS, B, B, 1);
        half.stepRemove(0, 0, 0);
        no("the second is forbidden by the third", half.run(0), half, ClubBase.FORBIDDEN, 0, 2, 1);
        there("the first is taken back", half, 1, 1, 1);
    }

    /** "When it is done, and the column comes from no table, it is refused as UNWRITABLE at the first answer": at none, if there is none. */
    static void removeOfWhatComesFromNoTable() {
        ClubBase b = rows(ClubBase.BLANKS);
        b.askGroups(0, 0, 0);
        b.ask(11, -1);
        b.stepRemove(0, 2, 0);
        Check.due("no answer", b.run(0), true);
        Club.enter(b, 0, 1);
        no("an answer", b.run(0), b, ClubBase.UNWRITABLE, -1, -1, -1);
        b.addAct();
        b.stepPut(1, 2, 0, 1);
        no("PUT", b.run(1), b, ClubBase.UNWRITABLE, -1, -1, -1);
        b.remove(0, 0);
        Check.due("PUT, no answer", b.run(1), true);
    }

    /** REMOVE by a column that cannot be written through: it comes from a table all the same. */
    static void removeByAReckonedOrDroppedColumn() {
        ClubBase b = rows(ClubBase.BLANKS, B, B);
        b.addReckoned(0, ClubBase.ADD, 0, 0, 0);
        b.addNumber(0, 0, 9);
        b.ask(0, -1);
        b.drop(0, 3);
        b.stepRemove(0, 1, 2);
        Check.due("reckoned", b.run(0), true);
        there("reckoned", b, 0, 0);
        b.undo();
        b.addAct();
        b.stepRemove(1, 1, 3);
        Check.due("dropped", b.run(1), true);
        there("dropped", b, 0, 0);
        b.undo();
        b.addAct();
        b.stepPut(2, 1, 3, B);
        no("PUT to a dropped one", b.run(2), b, ClubBase.UNWRITABLE, -1, -1, -1);
    }

    /** "IF: if a question has no answers, some of the next steps are left out": "how many ... or as many as there are" */
    static void ifLeavesOutSomeOfTheNextSteps() {
        for (int skip = 1; skip <= 5; skip++) {
            for (int has = 0; has < 2; has++) {
                ClubBase b = rows(ClubBase.BLANKS);
                b.addTable();
                b.ask(1, -1);
                if (has == 1) b.enter(1);
                b.stepIf(0, 1, skip);
                for (int n = 0; n < 5; n++) {
                    b.type(0, n);
                    b.stepAdd(0, 0);
                }
                Check.due("done", b.run(0), true);
                int left = has == 1 ? 0 : skip;
                Check.due("rows with " + skip + " left out: " + has, b.rows(0), 5 - left);
                if (left < 5) Check.due("the first that is done", b.cell(0, 0, 0), left);
            }
        }
    }

    /** "or as many as there are": an IF at the end, or with fewer steps behind it. */
    static void ifWithFewerStepsBehindIt() {
        for (int behind = 0; behind < 5; behind++) {
            ClubBase b = rows(ClubBase.BLANKS);
            b.stepIf(0, 0, 5);
            for (int n = 0; n < behind; n++) b.stepAdd(0, 0);
            Check.due("done", b.run(0), true);
            Check.due("none of " + behind, b.rows(0), 0);
            Check.due("can be taken back", b.undoable(), 1);
        }
    }

    /** An IF can leave out another IF, and asks when it is done, not when the act begins. */
    static void ifAsksWhenItIsDone() {
        ClubBase b = rows(ClubBase.BLANKS);
        b.stepAdd(0, 0);
        b.stepIf(0, 0, 1);
        b.stepAdd(0, 0);
        Check.due("a row of the step ahead", b.run(0), true);
        Check.due("both were made", b.rows(0), 2);
        b.addAct();
        b.stepRemove(1, 0, 0);
        b.stepIf(1, 0, 2);
        b.stepIf(1, 0, 5);
        b.stepAdd(1, 0);
        b.stepAdd(1, 0);
        Check.due("no row is left", b.run(1), true);
        Check.due("the last alone was made", b.rows(0), 3);
        there("it is there", b, 0, 0, 1);
    }

    /** "question: a question": a grouped one and a cross one can be asked whether they have answers, too. */
    static void ifOfGroupsAndOfACross() {
        ClubBase b = rows(ClubBase.BLANKS);
        b.askGroups(0, 0, 0);
        b.askCross(0, 0, 0, 0);
        b.stepIf(0, 1, 1);
        b.stepAdd(0, 0);
        b.stepIf(0, 2, 1);
        b.stepAdd(0, 0);
        Check.due("no groups, no crossing", b.run(0), true);
        Check.due("no rows", b.rows(0), 0);
        Club.enter(b, 0);
        Check.due("a group, a crossing", b.run(0), true);
        Check.due("two rows", b.rows(0), 3);
    }

    /** "at the first one that is, the act ends, and all that it has changed is taken back, and its reason is that of the change" */
    static void aRefusedActIsTakenBackWholly() {
        Check.Calls setup = x -> {
            Club.all(x);
            x.ask(2, -1);
            x.stepPut(0, 1, 5, 7);
            x.type(0, 1);
            x.type(1, 9);
            x.stepAdd(0, 1);
            x.stepRemove(0, 4, 0);
            x.addAct();
            x.stepPut(1, 0, 2, B);
            x.stepRemove(1, 0, 1);
            x.type(0, 2);
            x.stepAdd(1, 0);
            x.type(0, 10);
            x.stepAdd(1, 0);
            x.type(0, 3);
            x.stepAdd(1, 0);
        };
        Check.refused("a rule at the first PUT but one", setup, x -> x.run(0), ClubBase.RULE, 0, 1, 0);
        Check.refused("a range at the fourth step", setup, x -> x.run(1), ClubBase.RANGE, 0, 4, 0);
    }

    /** What a refused act has removed, made and blanked is as it was, and numbers of rows are free. */
    static void aRefusedActFreesNumbers() {
        ClubBase b = rows(ClubBase.FOLLOWS, B, 0);
        b.stepRemove(0, 0, 0);
        b.type(0, 4);
        b.stepAdd(0, 0);
        b.stepPut(0, 0, 0, 10);
        no("refused", b.run(0), b, ClubBase.RANGE, 0, 2, 0);
        there("as they were", b, 1, 1, 0);
        column("as they were", b, 1, B, 0);
        Check.due("no row was made", b.rows(0), 2);
        Check.due("the draft stays", b.type(0, 4), 4);
        Check.due("the number is free", b.enter(0), 2);
    }

    /** "An act that is done wholly, also one that changed nothing, can be taken back" */
    static void anActThatChangedNothingCanBeTakenBack() {
        ClubBase b = rows(ClubBase.BLANKS, B);
        Check.due("none yet", b.undoable(), 0);
        Check.due("an act without steps", b.run(0), true);
        Check.due("one", b.undoable(), 1);
        b.stepPut(0, 0, 0, 0);
        Check.due("what is there is put", b.run(0), true);
        Check.due("two", b.undoable(), 2);
        b.addAct();
        b.stepPut(1, 0, 0, 10);
        Check.due("refused", b.run(1), false);
        Check.due("two still", b.undoable(), 2);
        Check.due("the one", b.undo(), 1);
        Check.due("the other", b.undo(), 0);
        Check.thrown("no more", Check.STATE, b, ClubBase::undo);
        Check.due("none", b.undoable(), 0);
    }

    /** "as a whole, latest one first, at most the latest 5" */
    static void theLatestFiveCanBeTakenBack() {
        for (int done = 0; done <= 8; done++) {
            ClubBase b = rows(ClubBase.BLANKS);
            b.stepAdd(0, 0);
            b.stepAdd(0, 0);
            for (int n = 1; n <= done; n++) {
                b.run(0);
                Check.due("of " + n, b.undoable(), Math.min(n, 5));
            }
            for (int left = Math.min(done, 5) - 1; left >= 0; left--) {
                Check.due("left", b.undo(), left);
                Check.due("left, too", b.undoable(), left);
            }
            Check.thrown("no more of " + done, Check.STATE, b, ClubBase::undo);
            Check.due("the first ones stay", b.rows(0), 2 * Math.max(0, done - 5));
        }
    }

    /** Acts that are done behind some that were taken back, with a refused one among them, when five can be taken back. */
    static void actsBehindThoseThatWereTakenBack() {
        ClubBase b = rows(ClubBase.BLANKS);
        b.type(0, 1);
        b.stepAdd(0, 0);
        b.addAct();
        b.type(0, 2);
        b.stepAdd(1, 0);
        b.addAct();
        b.stepAdd(2, 0);
        b.type(0, 77);
        b.stepAdd(2, 0);
        for (int n = 0; n < 6; n++) b.run(0);
        Check.due("refused", b.run(2), false);
        Check.due("five", b.undoable(), 5);
        Check.due("six rows", b.rows(0), 6);
        b.undo();
        b.undo();
        Check.due("refused", b.run(2), false);
        b.run(1);
        Check.due("four", b.undoable(), 4);
        column("the last is of the other act", b, 0, 1, 1, 1, 1, 2);
        b.run(1);
        b.run(1);
        Check.due("five again", b.undoable(), 5);
        for (int n = 4; n >= 0; n--) Check.due("left", b.undo(), n);
        Check.due("two stay", b.rows(0), 2);
        column("of the first act", b, 0, 1, 1);
        b.clearDraft();
        Check.due("the next", b.enter(0), 2);
    }

    private static void twoActs(ClubBase b) {
        Club.all(b);
        b.dropRule(0);
        b.addRule(0, 0, ClubBase.BOTH, 0, 0);
        b.need(0, 0, true);
        b.clearDraft();
        b.addAct();
        b.stepAdd(1, 2);
        b.put(0, 0, 0, 77);
        b.run(0);
        b.put(0, 0, 0, 77);
        b.run(1);
        b.put(0, 0, 0, 77);
    }

    /** "as long as no other change of rows or of the design was made behind it by a call that was not refused, also one by which all is as it was" */
    static void anotherChangeEndsTheTakingBack() {
        Check.Calls[] changes = {ClubBase::addTable, x -> x.addNumber(0, 0, 9), x -> x.addLink(0, 0, 0), x -> x.addReckoned(0, 0, 0, 0, 0),
            x -> x.reckonAnew(0, 3, ClubBase.COUNT, 0, 0, 1), x -> x.need(0, 0, false), x -> x.need(0, 0, true), x -> x.single(0, 0, false),
            x -> x.single(0, 0, true), x -> x.narrow(0, 0, 0, 9), x -> x.narrow(0, 1, -50, 30), x -> x.drop(2, 1), x -> x.setRemoval(1, 0, ClubBase.FORBIDS),
            x -> x.setRemoval(1, 0, ClubBase.FOLLOWS), x -> x.addRule(0, 0, 3, 0, 0), x -> x.dropRule(1), x -> x.enter(1), x -> x.put(0, 0, 0, 1),
            x -> x.put(0, 0, 0, 2), x -> x.put(0, 2, 1, B), x -> x.remove(2, 0), x -> x.enterInside(1, 0), x -> x.write(0, 0, 0, 0), x -> x.write(0, 0, 1, 5)};
        for (int n = 0; n < changes.length; n++) {
            ClubBase b = club(ActsEdgeTest::twoActs);
            Check.due("two acts", b.undoable(), 2);
            changes[n].on(b);
            Check.due("change " + n, b.undoable(), 0);
            Check.thrown("change " + n, Check.STATE, b, ClubBase::undo);
            b.run(0);
            Check.due("an act behind change " + n, b.undoable(), 1);
        }
    }

    /** "by a call that was not refused": refused calls, those that throw, and those that change neither rows nor the design do not end it. */
    static void otherCallsDoNotEndTheTakingBack() {
        Check.Calls[] calls = {x -> x.reckonAnew(0, 3, ClubBase.ADD, 3, 0, 0), x -> x.need(0, 1, true), x -> x.single(1, 1, true), x -> x.drop(0, 1),
            x -> x.narrow(0, 0, 2, 9), x -> x.addRule(0, 0, ClubBase.UNLIKE, 0, 0), x -> { x.type(0, 10); x.enter(0); },
            x -> x.put(0, 0, 0, 10), x -> x.remove(0, 0), x -> { x.type(1, 101); x.enterInside(1, 0); }, x -> x.write(0, 0, 1, 101), x -> x.write(0, 0, 3, 1),
            x -> { x.addAct(); x.stepPut(2, 0, 3, 1); x.run(2); }, x -> x.type(0, 1), ClubBase::clearDraft, x -> x.openForm(0, 1),
            x -> x.ask(0, -1), x -> x.condition(0, 0, 0, 0, 0), x -> x.askGroups(0, 0, 0), x -> x.askCross(0, 0, 0, 0), ClubBase::addAct,
            x -> x.stepPut(0, 0, 0, 0), x -> x.stepAdd(0, 0), x -> x.stepRemove(0, 0, 0), x -> x.stepIf(0, 0, 1), x -> x.choice(1, 0, 0, 0),
            x -> x.wouldLose(0, 0, 0, 0), x -> x.wouldLoseAll(0, 0), x -> x.order(0), ClubBase::broken, ClubBase::reason, x -> x.cell(0, 0, 0),
            x -> x.answer(0, 0, 0), x -> x.keyOf(3, 1), x -> x.target(0, 0, 0), ClubBase::undoable,
            x -> Check.thrown("a fifth rule", Check.INDEX, x, y -> y.dropRule(5)), x -> Check.thrown("no row", Check.INDEX, x, y -> y.put(0, 3, 0, 0)),
            x -> Check.thrown("no range", Check.ARGUMENT, x, y -> y.addNumber(0, 1, 0)), x -> Check.thrown("no removal", Check.ARGUMENT, x, y -> y.setRemoval(1, 0, 3))};
        for (int n = 0; n < calls.length; n++) {
            ClubBase b = club(ActsEdgeTest::twoActs);
            int before = b.rows(2);
            calls[n].on(b);
            Check.due("call " + n, b.undoable(), 2);
            Check.due("taken back", b.undo(), 1);
            Check.due("the row is taken back", b.rows(2), before - 1);
            Check.due("taken back, too", b.undo(), 0);
        }
    }

    /** "What is taken back is as it was ahead of the act, also which numbers of rows are free; the draft stays as it is." */
    static void whatIsTakenBackIsAsItWas() {
        ClubBase b = Club.filled();
        Club.questions(b);
        b.addAct();
        b.stepRemove(0, 1, 1);
        b.stepPut(0, 0, 1, B);
        b.type(0, 5);
        b.stepAdd(0, 0);
        b.stepAdd(0, 0);
        b.put(0, 0, 0, 77);
        int[][] rows = {{3, 4, 2}, {4, 4, 4}, {1, 2, 0}};
        int[] before = cells(b, rows);
        Check.due("done", b.run(0), true);
        Check.due("rows were removed", b.isThere(1, 0) || b.isThere(1, 1) || b.isThere(2, 0), false);
        Check.due("a cell became BLANK", b.cell(1, 3, 1), B);
        Check.due("rows were made", b.rows(0), 5);
        b.type(0, 6);
        Check.due("taken back", b.undo(), 0);
        Check.reason("no reason, as the act had none", b, 0, -1, -1, -1);
        int[] after = cells(b, rows);
        for (int i = 0; i < before.length; i++) Check.due("cell " + i, after[i], before[i]);
        Check.due("answers", b.answers(0), 4);
        Check.due("no row 3", b.isThere(0, 3), false);
        Check.due("rows", b.rows(0), 3);
        Check.due("the draft stays", b.type(1, 40), B);
        Check.due("the number is free", b.enter(0), 3);
        Check.due("with the draft", b.cell(0, 3, 0), 6);
    }

    private static int[] cells(ClubBase b, int[][] rows) {
        int[] all = new int[40];
        int at = 0;
        for (int t = 0; t < 3; t++) {
            for (int r = 0; r < rows[t][0] && b.isThere(t, r); r++) {
                for (int c = 0; c < rows[t][1] && at < all.length; c++) all[at++] = b.cell(t, r, c);
            }
        }
        return all;
    }

    /** "which numbers of rows are free": those of rows that the act made; not those of rows that were removed ahead of it. */
    static void numbersAreFreeAgain() {
        ClubBase b = rows(ClubBase.BLANKS, B, B, B);
        b.remove(0, 2);
        b.stepAdd(0, 0);
        b.run(0);
        there("row 3", b, 1, 1, 0, 1);
        b.undo();
        there("taken back", b, 1, 1, 0, 0);
        Check.due("3 again, not 2", b.enter(0), 3);
        for (int r = 4; r < 29; r++) b.enter(0);
        b.run(0);
        Check.thrown("full", Check.STATE, b, x -> x.enter(0));
        b.undo();
        Check.due("29 again", b.enter(0), 29);
        Check.thrown("full again", Check.STATE, b, x -> x.enter(0));
    }

    /** Promise 50: "Returns how many more can be taken back"; an act that was taken back can be done again. */
    static void anActCanBeDoneAgain() {
        ClubBase b = rows(ClubBase.BLANKS, B);
        b.stepPut(0, 0, 0, 5);
        for (int n = 0; n < 7; n++) {
            Check.due("done", b.run(0), true);
            column("done", b, 0, 5);
            Check.due("taken back", b.undo(), 0);
            column("taken back", b, 0, 0);
            Check.due("none", b.undoable(), 0);
        }
        Check.due("the rows are as they were: no change ends what is to come", b.run(0), true);
        Check.due("one", b.undoable(), 1);
    }

    /** Promise 48: "Returns whether it is done wholly"; steps that are added later are done the next time. */
    static void stepsThatAreAddedLater() {
        ClubBase b = rows(ClubBase.BLANKS, B, B);
        b.stepPut(0, 0, 0, 3);
        b.run(0);
        b.stepRemove(0, 0, 0);
        Check.due("the first time", b.isThere(0, 0), true);
        Check.due("taken back as it was done", b.undo(), 0);
        column("as it was", b, 0, 0, 1);
        b.run(0);
        there("the second time", b, 0, 0);
        b.condition(0, 0, 0, ClubBase.IS, 1);
        b.undo();
        b.run(0);
        there("a condition that was added later counts, too", b, 1, 1);
        column("it has no answer at the second step", b, 0, 0, 3);
    }

    public static void main(String[] args) {
        Check.methods(ActsEdgeTest.class);
    }
}
