/** The sentences of "Terms", QUESTIONS, and of promises 33 to 42 that name a bound. */
public final class QuestionsEdgeTest {
    private static final int B = ClubBase.BLANK;
    private static final int IS = ClubBase.IS, LEAST = ClubBase.LEAST, MOST = ClubBase.MOST, EMPTY = ClubBase.EMPTY;

    private static int[] row(int... cells) {
        return cells;
    }

    /** All answers of a question, with all its columns. */
    private static void answers(String what, ClubBase b, int question, int[]... due) {
        Check.due(what + ": answers", b.answers(question), due.length);
        for (int a = 0; a < due.length && a < b.answers(question); a++) {
            Check.due(what + ": columns", b.columns(question), due[a].length);
            for (int c = 0; c < due[a].length && c < b.columns(question); c++) {
                Check.due(what + ": answer " + a + ", " + c, b.answer(question, a, c), due[a][c]);
            }
        }
    }

    /** A table with number columns from -9999 to 9999 and these rows in it. */
    private static ClubBase numbers(int columns, int[]... rows) {
        ClubBase b = new ClubBase();
        b.addTable();
        for (int c = 0; c < columns; c++) b.addNumber(0, -9999, 9999);
        for (int[] cells : rows) Club.enter(b, 0, cells);
        return b;
    }

    /** "Questions are numbered from 0; at most 8 are made", of all kinds together. */
    static void atMost8Questions() {
        ClubBase b = numbers(1);
        for (int q = 0; q < 8; q++) {
            int next = q;
            Check.thrown("not made yet", Check.INDEX, b, x -> x.answers(next));
            Check.thrown("no source yet", Check.INDEX, b, x -> x.ask(10 + next, -1));
            int made = q % 3 == 0 ? b.ask(0, -1) : q % 3 == 1 ? b.askGroups(0, 0, 0) : b.askCross(0, 0, 0, 0);
            Check.due("question", made, q);
        }
        Check.thrown("a ninth plain one", Check.STATE, b, x -> x.ask(0, -1));
        Check.thrown("a ninth grouped one", Check.STATE, b, x -> x.askGroups(0, 0, 0));
        Check.thrown("a ninth cross one", Check.STATE, b, x -> x.askCross(0, 0, 0, 0));
        Check.thrown("none", Check.INDEX, b, x -> x.answers(8));
        Check.due("the last one", b.columns(7), 5);
    }

    /** "The answers of a question are found anew each time, from the rows as they are" */
    static void answersAreFoundAnew() {
        ClubBase b = numbers(1);
        b.ask(0, -1);
        b.askGroups(10, 0, 0);
        b.askCross(11, 0, 0, 1);
        answers("no rows", b, 0);
        answers("no groups", b, 1);
        answers("no crossing", b, 2);
        Check.due("one column", b.columns(2), 1);
        Club.enter(b, 0, 4);
        answers("entered", b, 0, row(4));
        answers("a group", b, 1, row(4, 1, 4, 4, 4));
        answers("a crossing", b, 2, row(4, 1));
        b.put(0, 0, 0, 5);
        answers("put", b, 0, row(5));
        b.addAct();
        b.stepAdd(0, 0);
        b.run(0);
        answers("added", b, 0, row(5), row(B));
        answers("two groups", b, 1, row(B, 1, 0, B, B), row(5, 1, 5, 5, 5));
        b.undo();
        answers("taken back", b, 0, row(5));
        b.narrow(0, 0, 0, 4);
        answers("narrowed", b, 0, row(B));
        b.remove(0, 0);
        answers("removed", b, 0);
        answers("no groups again", b, 1);
    }

    /** "It has the columns that its source had when it was made", also those that were dropped by then. */
    static void columnsAreThoseOfItsMaking() {
        ClubBase b = new ClubBase();
        b.addTable();
        Check.due("no columns", b.ask(0, -1), 0);
        b.addNumber(0, 0, 9);
        Club.enter(b, 0, 7);
        b.ask(0, -1);
        b.addNumber(0, 0, 9);
        b.put(0, 0, 1, 8);
        b.ask(10, -1);
        b.ask(11, -1);
        b.ask(0, -1);
        b.drop(0, 0);
        b.ask(0, -1);
        b.addNumber(0, 0, 9);
        int[] due = {0, 1, 0, 1, 2, 2};
        for (int q = 0; q < due.length; q++) Check.due("columns of " + q, b.columns(q), due[q]);
        answers("none", b, 0, row());
        answers("a dropped one", b, 1, row(B));
        answers("over none", b, 2, row());
        answers("over a dropped one", b, 3, row(B));
        answers("two", b, 4, row(B, 8));
        answers("made with a dropped one", b, 5, row(B, 8));
        Check.thrown("no condition", Check.INDEX, b, x -> x.condition(0, 0, 0, IS, 0));
        Check.thrown("no later column", Check.INDEX, b, x -> x.askGroups(14, 2, 0));
        Check.due("a later column of the table", b.askGroups(0, 2, 1), 6);
        answers("a later column of the table", b, 6, row(B, 1, 8, 8, 8));
    }

    /** "it also has the columns that the table had then to which that leads, behind the others" */
    static void joinedColumnsAreThoseOfItsMaking() {
        ClubBase b = new ClubBase();
        b.addTable();
        b.addTable();
        b.addLink(0, 1, ClubBase.FORBIDS);
        Check.due("a join to no columns", b.ask(0, 0), 0);
        b.addNumber(1, 0, 9);
        b.ask(0, 0);
        b.addNumber(1, 0, 9);
        b.addNumber(0, 0, 9);
        b.ask(10, 0);
        b.ask(11, 0);
        b.ask(0, 0);
        Club.enter(b, 1, 4, 5);
        Club.enter(b, 0, 0, 6);
        answers("to no columns", b, 0, row(0));
        answers("to one", b, 1, row(0, 4));
        answers("to none, then to two", b, 2, row(0, 4, 5));
        answers("to one, then to two", b, 3, row(0, 4, 4, 5));
        answers("two and two", b, 4, row(0, 6, 4, 5));
        Check.due("joined to no columns: its own", b.target(0, 0, 0), 0);
        Check.due("joined twice: the second", b.target(2, 0, 2), 1001);
        Check.due("joined twice: the first", b.target(3, 0, 1), 1000);
        Check.due("joined twice: behind it", b.target(3, 0, 3), 1001);
    }

    /** "Its answers are the rows of the table that are there, or the answers of the question, in order": none, one, thirty. */
    static void answersAreInOrder() {
        ClubBase b = numbers(1);
        b.ask(0, -1);
        b.ask(10, -1);
        for (int r = 0; r < 30; r++) Club.enter(b, 0, 60 - 2 * r);
        for (int q = 0; q < 2; q++) {
            Check.due("thirty", b.answers(q), 30);
            for (int a = 0; a < 30; a++) Check.due("answer " + a, b.answer(q, a, 0), 60 - 2 * a);
        }
        for (int r = 0; r < 30; r++) if (r != 11 && r != 29) b.remove(0, r);
        answers("two that are there", b, 0, row(38), row(2));
        answers("two answers", b, 1, row(38), row(2));
        Check.due("the row of the second", b.target(1, 1, 0), 290);
    }

    /** "with a join each together with the row to which the link leads, and without those whose link is BLANK" */
    static void aJoinLeavesOutBlankLinks() {
        ClubBase b = new ClubBase();
        b.addTable();
        b.addLink(0, 0, ClubBase.BLANKS);
        b.addNumber(0, 0, 9);
        b.ask(0, 0);
        b.ask(10, 2);
        b.ask(10, 0);
        Club.enter(b, 0, B, 5);
        answers("all are BLANK", b, 0);
        Club.enter(b, 0, 0, 6);
        Club.enter(b, 0, 1, 7);
        Club.enter(b, 0, 3, 8);
        answers("a BLANK one is left out", b, 0, row(0, 6, B, 5), row(1, 7, 0, 6), row(3, 8, 3, 8));
        answers("then that which leads to it", b, 1, row(1, 7, 0, 6, B, 5), row(3, 8, 3, 8, 3, 8));
        answers("the same row twice", b, 2, row(0, 6, B, 5, B, 5), row(1, 7, 0, 6, 0, 6), row(3, 8, 3, 8, 3, 8));
        b.remove(0, 0);
        answers("one became BLANK", b, 0, row(1, 7, B, 6), row(3, 8, 3, 8));
        answers("then that which leads to it, too", b, 1, row(3, 8, 3, 8, 3, 8));
    }

    /** Of thirty rows each leads to the row ahead, the first to none; rows of the joined table can be higher than all others. */
    static void joinsOfThirtyRows() {
        ClubBase b = new ClubBase();
        b.addTable();
        b.addLink(0, 0, ClubBase.BLANKS);
        for (int r = 0; r < 30; r++) Club.enter(b, 0, r == 0 ? B : r - 1);
        b.ask(0, 0);
        b.ask(10, 1);
        Check.due("one join", b.answers(0), 29);
        Check.due("two joins", b.answers(1), 28);
        for (int a = 0; a < 28; a++) {
            Check.due("own row", b.target(1, a, 0), 10 * (a + 2));
            Check.due("joined row", b.target(1, a, 1), 10 * (a + 1));
            Check.due("joined row of that", b.target(1, a, 2), 10 * a);
        }
        b.put(0, 0, 0, 29);
        Check.due("a ring", b.answers(1), 30);
        Check.due("the first leads to the last", b.target(1, 0, 1), 290);
        Check.due("and to that ahead of it", b.target(1, 0, 2), 280);
    }

    private static int kept(int cell, int relation, int value) {
        ClubBase b = numbers(1, row(cell));
        b.ask(0, -1);
        b.condition(0, 1, 0, relation, value);
        return b.answers(0);
    }

    /** "IS, LEAST and MOST hold if the cell is not BLANK and is, is at least, or is at most a number; EMPTY if it is BLANK." */
    static void whenConditionsHold() {
        for (int d = -1; d <= 1; d++) {
            Check.due("IS " + d, kept(5 + d, IS, 5), d == 0 ? 1 : 0);
            Check.due("LEAST " + d, kept(5 + d, LEAST, 5), d >= 0 ? 1 : 0);
            Check.due("MOST " + d, kept(5 + d, MOST, 5), d <= 0 ? 1 : 0);
            Check.due("EMPTY " + d, kept(5 + d, EMPTY, 5 + d), 0);
        }
        for (int value = -999999; value <= 999999; value += 999999) {
            Check.due("BLANK IS " + value, kept(B, IS, value), 0);
            Check.due("BLANK LEAST " + value, kept(B, LEAST, value), 0);
            Check.due("BLANK MOST " + value, kept(B, MOST, value), 0);
            Check.due("BLANK EMPTY " + value, kept(B, EMPTY, value), 1);
            Check.due("0 EMPTY " + value, kept(0, EMPTY, value), 0);
        }
        Check.due("the lowest cell", kept(-9999, LEAST, -999999), 1);
        Check.due("the greatest cell", kept(9999, MOST, 999999), 1);
    }

    /** The values of conditions reach as far as reckoned cells do. */
    static void conditionsOnReckonedCells() {
        int[] factors = {1001, -1001, 1002, -1002};
        ClubBase b = numbers(2);
        b.addReckoned(0, ClubBase.TIMES, 0, 1, 0);
        for (int f : factors) Club.enter(b, 0, 999, f);
        for (int q = 0; q < 8; q++) b.ask(0, -1);
        b.condition(0, 0, 2, IS, 999999);
        b.condition(1, 0, 2, IS, -999999);
        b.condition(2, 0, 2, LEAST, 999999);
        b.condition(3, 0, 2, MOST, -999999);
        b.condition(4, 0, 2, LEAST, -999999);
        b.condition(5, 0, 2, MOST, 999999);
        b.condition(6, 0, 2, EMPTY, 999999);
        b.condition(7, 0, 2, LEAST, -999998);
        int[] due = {1, 1, 1, 1, 2, 2, 2, 1};
        for (int q = 0; q < 8; q++) Check.due("question " + q, b.answers(q), due[q]);
        Check.due("the greatest", b.answer(2, 0, 2), 999999);
        Check.due("the lowest", b.answer(3, 0, 2), -999999);
    }

    /** "an answer counts, if no line has conditions, or all conditions of some line that has any hold for it" */
    static void linesOfConditions() {
        for (int line = 0; line < 3; line++) {
            ClubBase b = numbers(2, row(1, 1), row(1, 2), row(2, 1), row(2, 2));
            b.ask(0, -1);
            answers("no line has any", b, 0, row(1, 1), row(1, 2), row(2, 1), row(2, 2));
            Check.due("first", b.condition(0, line, 0, IS, 1), 1);
            answers("one line, the others have none", b, 0, row(1, 1), row(1, 2));
            Check.due("second", b.condition(0, line, 1, IS, 2), 2);
            answers("all of the line", b, 0, row(1, 2));
            Check.due("third", b.condition(0, (line + 1) % 3, 0, IS, 2), 3);
            answers("either line", b, 0, row(1, 2), row(2, 1), row(2, 2));
            Check.due("fourth", b.condition(0, (line + 1) % 3, 1, IS, 3), 4);
            answers("a line that never holds", b, 0, row(1, 2));
            Check.due("fifth", b.condition(0, (line + 2) % 3, 1, MOST, 1), 5);
            answers("three lines", b, 0, row(1, 1), row(1, 2), row(2, 1));
            Check.due("sixth", b.condition(0, (line + 2) % 3, 0, LEAST, 2), 6);
            answers("six conditions", b, 0, row(1, 2), row(2, 1));
            Check.thrown("a seventh", Check.STATE, b, x -> x.condition(0, 0, 0, IS, 1));
            answers("six still", b, 0, row(1, 2), row(2, 1));
        }
    }

    /** All six conditions can stand in one line, for one column or several. */
    static void sixConditionsInOneLine() {
        ClubBase b = numbers(6, row(1, 2, 3, 4, 5, 6), row(1, 2, 3, 4, 5, 7), row(0, 2, 3, 4, 5, 6), row(1, 2, 3, 4, 5, B));
        b.ask(0, -1);
        for (int c = 0; c < 6; c++) Check.due("condition", b.condition(0, 2, c, IS, c + 1), c + 1);
        answers("all six", b, 0, row(1, 2, 3, 4, 5, 6));
        b.ask(0, -1);
        for (int n = 1; n <= 6; n++) Check.due("the same one", b.condition(1, 0, 5, LEAST, n), n);
        Check.due("the last is the narrowest", b.answers(1), 3);
        b.ask(10, -1);
        Check.due("another question has its own", b.condition(2, 0, 0, IS, 0), 1);
        answers("over six conditions", b, 2);
    }

    /** Conditions that a source gets later count for the questions over it; those over it do not count for the source. */
    static void conditionsOfTheSourceCount() {
        ClubBase b = numbers(1, row(1), row(2), row(3));
        b.ask(0, -1);
        b.ask(10, -1);
        b.askGroups(11, 0, 0);
        b.condition(1, 0, 0, LEAST, 2);
        answers("over it", b, 1, row(2), row(3));
        answers("the source", b, 0, row(1), row(2), row(3));
        b.condition(0, 0, 0, MOST, 2);
        answers("both", b, 1, row(2));
        answers("groups of both", b, 2, row(2, 1, 2, 2, 2));
        answers("the source alone", b, 0, row(1), row(2));
    }

    /** "It has an answer for each different cell of the key, BLANK first, then by rising numbers" */
    static void groupsRiseFromBlankOn() {
        ClubBase b = numbers(1, row(9999), row(B), row(0), row(-1), row(9999), row(-9999), row(1), row(B), row(0));
        b.askGroups(0, 0, 0);
        answers("groups", b, 0, row(B, 2, 0, B, B), row(-9999, 1, -9999, -9999, -9999), row(-1, 1, -1, -1, -1), row(0, 2, 0, 0, 0),
            row(1, 1, 1, 1, 1), row(9999, 2, 19998, 9999, 9999));
        b.remove(0, 1);
        Check.due("one BLANK is left", b.answer(0, 0, 1), 1);
        b.remove(0, 7);
        Check.due("no BLANK is left", b.answer(0, 0, 0), -9999);
    }

    /** "with five columns: that cell; how many answers of the source have it; and of the cells of the value in these, those that are BLANK left out, the sum, 0 if there are none ... the least and the greatest one, BLANK if there are none" */
    static void fiveColumnsOfGroups() {
        ClubBase b = numbers(2, row(1, B), row(1, B), row(2, B), row(2, -5), row(3, 4), row(3, -4), row(3, B), row(4, 0));
        b.askGroups(0, 0, 1);
        answers("groups", b, 0, row(1, 2, 0, B, B), row(2, 2, -5, -5, -5), row(3, 3, 0, -4, 4), row(4, 1, 0, 0, 0));
        Check.due("five columns", b.columns(0), 5);
        b.askGroups(0, 1, 0);
        answers("keys with the same number", b, 1, row(B, 4, 7, 1, 3), row(-5, 1, 2, 2, 2), row(-4, 1, 3, 3, 3), row(0, 1, 4, 4, 4), row(4, 1, 3, 3, 3));
    }

    /** "the sum ... but BLANK if it is below -999999 or above 999999": of groups, and "such a sum" of a cross. */
    static void sumsBeyond999999AreBlank() {
        for (int sign = -1; sign <= 1; sign += 2) {
            ClubBase b = numbers(3);
            b.addReckoned(0, ClubBase.TIMES, 0, 1, 0);
            Club.enter(b, 0, sign * 999, 1001, 7);
            Club.enter(b, 0, 0, 1, 7);
            Club.enter(b, 0, 0, 1, 8);
            b.askGroups(0, 2, 3);
            b.askCross(0, 2, 2, 3);
            Check.due("999999", b.answer(0, 0, 2), sign * 999999);
            Check.due("999999 of a cross", b.answer(1, 0, 1), sign * 999999);
            b.put(0, 1, 0, sign);
            Check.due("1000000", b.answer(0, 0, 2), B);
            Check.due("1000000 of a cross", b.answer(1, 0, 1), B);
            Check.due("the count stays", b.answer(0, 0, 1), 2);
            Check.due("the least stays", b.answer(0, 0, 3), sign > 0 ? 1 : -999999);
            Check.due("the greatest stays", b.answer(0, 0, 4), sign > 0 ? 999999 : -1);
            b.put(0, 2, 0, -sign);
            b.put(0, 2, 2, 7);
            Check.due("over 1000000 on the way", b.answer(0, 0, 2), sign * 999999);
            Check.due("over 1000000 on the way of a cross", b.answer(1, 0, 1), sign * 999999);
            b.askGroups(10, 0, 2);
            Check.due("a sum of sums", b.answer(2, 0, 2), sign * 999999);
        }
    }

    /** A sum of thirty of the greatest numbers, and a sum of sums that is BLANK left out. */
    static void sumsOfThirty() {
        ClubBase b = numbers(3);
        b.addReckoned(0, ClubBase.TIMES, 0, 1, 0);
        for (int r = 0; r < 30; r++) Club.enter(b, 0, 999, 1001, r == 0 ? 1 : B);
        b.askGroups(0, 2, 3);
        answers("two groups", b, 0, row(B, 29, B, 999999, 999999), row(1, 1, 999999, 999999, 999999));
        b.askGroups(10, 4, 2);
        answers("a BLANK sum is left out", b, 1, row(999999, 2, 999999, 999999, 999999));
        b.askCross(0, 3, 2, 3);
        answers("a cross", b, 2, row(999999, B, 999999));
        b.askGroups(0, 3, 0);
        answers("one group of thirty", b, 3, row(999999, 30, 29970, 999, 999));
    }

    /** "It has an answer for each different cell of the first key ... and it has a further column for each different cell of the second key, in the same order" */
    static void aCrossRisesFromBlankOnInBothKeys() {
        ClubBase b = numbers(3, row(5, 5, 1), row(B, -5, 2), row(-5, B, 3), row(B, B, 4), row(5, -5, B), row(0, 0, B), row(0, 0, B), row(5, 5, 6));
        b.askCross(0, 0, 1, 2);
        answers("sums", b, 0, row(B, 4, 2, B, B), row(-5, 3, B, B, B), row(0, B, B, 0, B), row(5, B, 0, B, 7));
        int[] keys = {B, -5, 0, 5};
        for (int c = 1; c < 5; c++) Check.due("key of " + c, b.keyOf(0, c), keys[c - 1]);
        Check.thrown("no key of 0", Check.INDEX, b, x -> x.keyOf(0, 0));
        Check.thrown("no key of 5", Check.INDEX, b, x -> x.keyOf(0, 5));
        b.askCross(0, 1, 0, 2);
        answers("the other way", b, 1, row(B, 4, 3, B, B), row(-5, 2, B, B, 0), row(0, B, B, 0, B), row(5, B, B, B, 7));
    }

    /** A cross of no answers has one column; of one answer two; of thirty up to 31. */
    static void theColumnsOfACross() {
        ClubBase b = numbers(2);
        b.askCross(0, 0, 1, 0);
        Check.due("none: columns", b.columns(0), 1);
        Check.due("none: answers", b.answers(0), 0);
        Check.thrown("none: no key", Check.INDEX, b, x -> x.keyOf(0, 1));
        Check.thrown("none: no answer", Check.INDEX, b, x -> x.answer(0, 0, 0));
        for (int r = 0; r < 30; r++) {
            Club.enter(b, 0, 7, 15 - r);
            Check.due("columns of " + r, b.columns(0), r + 2);
            Check.due("the lowest key of " + r, b.keyOf(0, 1), 15 - r);
            Check.due("the greatest key of " + r, b.keyOf(0, r + 1), 15);
        }
        Check.due("one answer", b.answers(0), 1);
        Check.thrown("thirty keys", Check.INDEX, b, x -> x.keyOf(0, 31));
        Check.due("the last sum", b.answer(0, 0, 30), 7);
        b.askCross(0, 1, 0, 1);
        Check.due("thirty answers", b.answers(1), 30);
        Check.due("two columns", b.columns(1), 2);
        Check.due("the last answer", b.answer(1, 29, 1), 15);
    }

    /** "It is no source." */
    static void aCrossIsNoSource() {
        ClubBase b = numbers(1, row(1));
        b.askCross(0, 0, 0, 0);
        Check.thrown("of a plain one", Check.ARGUMENT, b, x -> x.ask(10, -1));
        Check.thrown("of groups", Check.ARGUMENT, b, x -> x.askGroups(10, 0, 1));
        Check.thrown("of a cross", Check.ARGUMENT, b, x -> x.askCross(10, 0, 1, 1));
        Check.due("no question is made", b.ask(0, -1), 1);
    }

    /** Promise 41: "1000 times the table, plus 10 times the row, plus the column", from the first cell to the last. */
    static void targetsFromTheFirstCellToTheLast() {
        ClubBase b = new ClubBase();
        for (int t = 0; t < 4; t++) b.addTable();
        b.addLink(0, 3, ClubBase.BLANKS);
        for (int c = 0; c < 6; c++) b.addNumber(3, 0, 9);
        for (int r = 0; r < 30; r++) b.enter(3);
        Club.enter(b, 0, 29);
        b.ask(0, 0);
        b.ask(3, -1);
        Check.due("the first", b.target(0, 0, 0), 0);
        for (int c = 0; c < 6; c++) {
            Check.due("joined " + c, b.target(0, 0, c + 1), 3290 + c);
            Check.due("the last row " + c, b.target(1, 29, c), 3290 + c);
            Check.due("the first row " + c, b.target(1, 0, c), 3000 + c);
        }
        Check.due("written", b.write(0, 0, 6, 5), true);
        Check.due("there", b.cell(3, 29, 5), 5);
        Check.due("written to the first", b.write(1, 0, 0, 6), true);
        Check.due("there, too", b.cell(3, 0, 0), 6);
        Check.due("not elsewhere", b.wouldLoseAll(3, 0) + b.wouldLoseAll(3, 5), 2);
    }

    /** "A cell of an answer can be written through, if its column comes from a stored column of a table"; otherwise -1, and UNWRITABLE. */
    static void whatCannotBeWrittenThrough() {
        ClubBase b = Club.filled();
        Club.questions(b);
        b.ask(12, -1);
        b.ask(1, -1);
        b.addNumber(2, 0, 9);
        b.ask(2, -1);
        b.drop(2, 2);
        int[][] cells = {{0, 0, 3}, {1, 0, 3}, {1, 0, 6}, {1, 2, 7}, {2, 0, 0}, {2, 0, 2}, {3, 0, 0}, {3, 1, 3}, {4, 0, 0}, {4, 1, 4}, {5, 3, 3}, {6, 0, 2}};
        for (int[] c : cells) {
            Check.due("no target", b.target(c[0], c[1], c[2]), -1);
            Check.due("unwritable", b.write(c[0], c[1], c[2], 1), false);
            Check.reason("unwritable", b, ClubBase.UNWRITABLE, -1, -1, -1);
            Check.due("unwritable, BLANK", b.write(c[0], c[1], c[2], B), false);
        }
        Check.due("a link", b.target(5, 3, 0), 1030);
        Check.due("a number that is BLANK", b.target(5, 2, 1), 1021);
        Check.due("the first of many", b.target(5, 0, 0), 1000);
    }

    /** Promise 42: two answers can come from one row; what is written shows in both, or leaves both out. */
    static void writingThroughAJoin() {
        ClubBase b = Club.filled();
        Club.questions(b);
        b.condition(1, 0, 5, LEAST, 20);
        Check.due("three answers", b.answers(1), 3);
        Check.due("the places of course 1", b.target(1, 2, 5), 11);
        Check.due("written", b.write(1, 2, 5, 21), true);
        Check.due("shows in the one", b.answer(1, 1, 5), 21);
        Check.due("shows in the other", b.answer(1, 2, 5), 21);
        Check.due("looked at", b.cell(1, 1, 3), 21);
        Check.due("written again", b.write(1, 1, 5, 19), true);
        Check.due("both are left out", b.answers(1), 1);
        Check.due("the link is written", b.write(1, 0, 0, 1), true);
        Check.due("the last is left out", b.answers(1), 0);
        Check.thrown("no answer", Check.INDEX, b, x -> x.write(1, 0, 0, 0));
    }

    /** Promise 40 and 38 ask for the answers as they are, not as they were for another question. */
    static void oneQuestionAfterTheOther() {
        ClubBase b = numbers(2, row(1, 2), row(3, 4));
        b.askCross(0, 0, 1, 1);
        b.askCross(0, 1, 0, 0);
        b.ask(0, -1);
        for (int n = 0; n < 2; n++) {
            Check.due("keys of the first", b.keyOf(0, 1), 2);
            Check.due("keys of the second", b.keyOf(1, 1), 1);
            Check.due("a cell of the third", b.answer(2, 1, 1), 4);
            Check.due("keys of the first, again", b.keyOf(0, 2), 4);
            Check.due("a cell of the second", b.answer(1, 1, 2), 3);
            Check.due("columns of the third", b.columns(2), 2);
        }
    }

    public static void main(String[] args) {
        Check.methods(QuestionsEdgeTest.class);
    }
}
