/** The sentences of "Terms", TABLES, that name a bound: tables, columns, reckoned columns, rules. */
public final class TablesEdgeTest {
    private static final int B = ClubBase.BLANK;
    private static final int ADD = ClubBase.ADD, TIMES = ClubBase.TIMES, LOOK = ClubBase.LOOK, TOTAL = ClubBase.TOTAL, COUNT = ClubBase.COUNT;

    private static ClubBase tables(int count) {
        ClubBase b = new ClubBase();
        for (int t = 0; t < count; t++) b.addTable();
        return b;
    }

    /** A table with three number columns from -9999 to 9999. */
    private static ClubBase wide() {
        ClubBase b = tables(1);
        for (int c = 0; c < 3; c++) b.addNumber(0, -9999, 9999);
        return b;
    }

    private static void cells(String what, ClubBase b, int table, int row, int... due) {
        for (int c = 0; c < due.length; c++) Check.due(what + ": cell " + c, b.cell(table, row, c), due[c]);
    }

    /** "Tables are numbered from 0; at most 4 are made." */
    static void atMost4Tables() {
        ClubBase b = new ClubBase();
        for (int t = 0; t < 4; t++) {
            int next = t;
            Check.thrown("table " + t + " is not made yet", Check.INDEX, b, x -> x.rows(next));
            Check.due("table", b.addTable(), t);
        }
        Check.thrown("a fifth table", Check.STATE, b, ClubBase::addTable);
        Check.thrown("a fifth table again", Check.STATE, b, ClubBase::addTable);
        Check.thrown("no table 4", Check.INDEX, b, x -> x.rows(4));
        Check.due("table 3 has rows", b.enter(3), 0);
    }

    /** "The columns of a table are numbered from 0; at most 6 are made in each" */
    static void atMost6ColumnsInEachTable() {
        ClubBase b = tables(4);
        for (int c = 0; c < 6; c++) {
            for (int t = 0; t < 4; t++) {
                int made = c % 3 == 0 ? b.addNumber(t, 0, 9) : c % 3 == 1 ? b.addLink(t, 3 - t, ClubBase.FORBIDS) : b.addReckoned(t, ADD, 0, 0, 0);
                Check.due("column in table " + t, made, c);
            }
        }
        for (int t = 0; t < 4; t++) {
            int full = t;
            Check.thrown("a seventh number", Check.STATE, b, x -> x.addNumber(full, 0, 9));
            Check.thrown("a seventh link", Check.STATE, b, x -> x.addLink(full, full, 0));
            Check.thrown("a seventh reckoned", Check.STATE, b, x -> x.addReckoned(full, ADD, 0, 0, 0));
            Club.enter(b, t, 4, B, B, 7);
            cells("six cells of table " + t, b, t, 0, 4, B, 8, 7, B, 8);
            Check.thrown("no cell 6", Check.INDEX, b, x -> x.cell(full, 0, 6));
        }
    }

    /** "and they keep their numbers": a number is not used again when a column was dropped, nor does it make place. */
    static void columnsKeepTheirNumbers() {
        ClubBase b = tables(1);
        for (int c = 0; c < 5; c++) b.addNumber(0, 0, 9);
        Club.enter(b, 0, 1, 2, 3, 4, 5);
        b.drop(0, 4);
        b.drop(0, 0);
        Check.due("the next number", b.addNumber(0, 0, 9), 5);
        cells("columns where they were", b, 0, 0, B, 2, 3, 4, B, B);
        Check.thrown("dropped columns were made, too", Check.STATE, b, x -> x.addNumber(0, 0, 9));
    }

    /** "The rows of a table are numbered from 0; at most 30 are made in each" */
    static void atMost30RowsInEachTable() {
        ClubBase b = tables(4);
        for (int r = 0; r < 30; r++) {
            for (int t = 0; t < 4; t++) {
                Check.due("row in table " + t, b.enter(t), r);
            }
        }
        for (int t = 0; t < 4; t++) {
            int full = t;
            Check.thrown("a row 30", Check.STATE, b, x -> x.enter(full));
            Check.due("30 were made", b.rows(t), 30);
            Check.due("row 29", b.isThere(t, 29), true);
            Check.due("no row 30", b.isThere(t, 30), false);
        }
    }

    /** "numbers of rows that are removed are not used again": nor do they make place. */
    static void numbersOfRemovedRowsAreNotUsedAgain() {
        ClubBase b = Club.small();
        for (int r = 0; r < 29; r++) b.enter(0);
        b.remove(0, 28);
        b.remove(0, 0);
        Check.due("the next number", Club.enter(b, 0, 5), 29);
        Check.due("28 is gone for good", b.isThere(0, 28), false);
        for (int r = 1; r < 28; r++) b.remove(0, r);
        b.remove(0, 29);
        Check.thrown("an empty table that had 30", Check.STATE, b, x -> x.enter(0));
        Check.due("30 were made", b.rows(0), 30);
    }

    /** "A row is there, if it was entered and not removed." */
    static void aRowIsThereIfItWasEnteredAndNotRemoved() {
        ClubBase b = Club.small();
        Check.due("not entered yet", b.isThere(0, 0), false);
        b.enter(0);
        Check.due("entered", b.isThere(0, 0), true);
        Check.due("refused", Club.enter(b, 0, 10), -1);
        Check.due("a refused row", b.isThere(0, 1), false);
        b.remove(0, 0);
        Check.due("removed", b.isThere(0, 0), false);
    }

    /** "It has a cell for each column, with a number or BLANK; the cells of rows are BLANK in a column that is made later." */
    static void cellsAreBlankInALaterColumn() {
        ClubBase b = tables(1);
        b.addNumber(0, 0, 9);
        b.addLink(0, 0, ClubBase.BLANKS);
        Club.enter(b, 0, 5, 0, 6, 7, 8, 9);
        Club.enter(b, 0, B, 0, 6, 7, 8, 9);
        b.openForm(0, 0);
        for (int c = 0; c < 6; c++) b.type(c, 0);
        b.enterInside(0, 1);
        for (int c = 0; c < 6; c++) b.type(c, 0);
        b.addAct();
        b.stepAdd(0, 0);
        b.run(0);
        Check.due("a later number", b.addNumber(0, 0, 9), 2);
        Check.due("a later link", b.addLink(0, 0, ClubBase.FORBIDS), 3);
        b.addTable();
        Check.due("a later link to a later table", b.addLink(0, 1, ClubBase.FORBIDS), 4);
        for (int r = 0; r < 4; r++) {
            for (int c = 2; c < 5; c++) Check.due("row " + r + ", cell " + c, b.cell(0, r, c), B);
        }
        Check.due("a reckoned one is reckoned at once", b.addReckoned(0, ADD, 0, 0, 0), 5);
        Check.due("its cell", b.cell(0, 0, 5), 10);
        Check.due("its cell of BLANK", b.cell(0, 1, 5), B);
    }

    /** "or it was dropped, and has BLANK cells for good" */
    static void aDroppedColumnHasBlankCellsForGood() {
        ClubBase b = tables(1);
        b.addNumber(0, 1, 9);
        b.addLink(0, 0, ClubBase.BLANKS);
        b.addReckoned(0, TIMES, 0, 0, 0);
        b.addLink(0, 0, ClubBase.BLANKS);
        Club.enter(b, 0, 3, 0, B, 0);
        b.need(0, 3, true);
        b.single(0, 3, true);
        b.drop(0, 2);
        Check.due("reckoned, dropped", b.cell(0, 0, 2), B);
        b.drop(0, 0);
        b.drop(0, 3);
        cells("rows that were there", b, 0, 0, B, 0, B, B);
        Club.enter(b, 0, 2, 0, 2, 77);
        cells("a row entered later", b, 0, 1, B, 0, B, B);
        b.openForm(0, 1);
        b.type(0, 2);
        b.enterInside(0, 1);
        cells("a row entered inside later", b, 0, 2, B, 1, B, B);
        b.type(0, 2);
        b.addAct();
        b.stepAdd(0, 0);
        b.run(0);
        cells("a row of an act", b, 0, 3, B, B, B, B);
        Check.due("nothing to lose", b.wouldLoseAll(0, 0) + b.wouldLoseAll(0, 2) + b.wouldLoseAll(0, 3), 0);
        Check.due("needed and single no more", b.broken(), 0);
        Check.thrown("is not stored", Check.ARGUMENT, b, x -> x.put(0, 0, 0, 2));
    }

    /** "a link, which leads to a table, perhaps its own"; its number "is the number of a row of the table to which it leads" */
    static void aLinkLeadsToATablePerhapsItsOwn() {
        ClubBase b = tables(4);
        for (int t = 0; t < 4; t++) b.addLink(t, (t + 1) % 4, ClubBase.FORBIDS);
        b.addLink(3, 3, ClubBase.FORBIDS);
        Club.enter(b, 3, B, B);
        Club.enter(b, 3, B, 1);
        Check.due("its own row", b.cell(3, 1, 1), 1);
        Check.due("a row of the table behind", Club.enter(b, 2, 1), 0);
        Check.due("row 2 is not there", Club.enter(b, 2, 2), -1);
        Check.reason("row 2 is not there", b, ClubBase.LINK, 2, 1, 0);
        Check.due("row 0 of the first table is not there yet", b.put(3, 0, 0, 0), false);
        Club.enter(b, 0);
        Check.due("from the last table to the first", b.put(3, 0, 0, 0), true);
        Check.due("forbidden there", b.remove(0, 0), false);
        Check.reason("forbidden there", b, ClubBase.FORBIDDEN, 3, 0, 0);
    }

    /** "A stored column can be needed, and it can be single; at first it is neither." */
    static void atFirstAColumnIsNeitherNeededNorSingle() {
        ClubBase b = tables(1);
        b.addNumber(0, 0, 9);
        b.addLink(0, 0, ClubBase.FORBIDS);
        Check.due("BLANK", b.enter(0), 0);
        Check.due("BLANK again", b.enter(0), 1);
        Check.due("numbers", Club.enter(b, 0, 4, 0), 2);
        Check.due("the same numbers", Club.enter(b, 0, 4, 0), 3);
        Check.due("a needed number", b.need(0, 0, true), false);
        Check.due("a needed link", b.need(0, 1, true), false);
        Check.due("a single number", b.single(0, 0, true), false);
        Check.due("a single link", b.single(0, 1, true), false);
        for (int r = 3; r >= 0; r--) b.remove(0, r);
        Check.due("in an empty table all can be", b.need(0, 0, true) && b.single(0, 0, true) && b.need(0, 1, true) && b.single(0, 1, true), true);
        Check.due("the first one", Club.enter(b, 0, 4, 4), 4);
        Check.due("no number", Club.enter(b, 0, B, 4), -1);
        Check.reason("no number", b, ClubBase.NEED, 0, 5, 0);
        Check.due("no link", Club.enter(b, 0, 5), -1);
        Check.reason("no link", b, ClubBase.NEED, 0, 5, 1);
        Check.due("the same number", Club.enter(b, 0, 4, 5), -1);
        Check.reason("the same number", b, ClubBase.SINGLE, 0, 5, 0);
        Check.due("the same link", Club.enter(b, 0, 5, 4), -1);
        Check.reason("the same link", b, ClubBase.SINGLE, 0, 5, 1);
        Check.due("another number and another link", Club.enter(b, 0, 5, 5), 5);
    }

    /** "it FORBIDS that, FOLLOWS, so that its own row is removed, too, or BLANKS, so that its cell becomes BLANK" */
    static void whatALinkDoes() {
        for (int removal = ClubBase.FORBIDS; removal <= ClubBase.BLANKS; removal++) {
            ClubBase b = tables(2);
            b.addLink(1, 0, removal);
            b.enter(0);
            b.enter(0);
            Club.enter(b, 1, 1);
            Check.due("no cell leads to row 0", b.remove(0, 0), true);
            Check.due("it is there", b.isThere(1, 0), true);
            Check.due("a cell leads to row 1", b.remove(0, 1), removal != ClubBase.FORBIDS);
            Check.due("row 1", b.isThere(0, 1), removal == ClubBase.FORBIDS);
            Check.due("its row", b.isThere(1, 0), removal != ClubBase.FOLLOWS);
            if (removal != ClubBase.FOLLOWS) Check.due("its cell", b.cell(1, 0, 0), removal == ClubBase.BLANKS ? B : 1);
        }
    }

    /** "ADD and TIMES: the sum, or the product, of the cells of two columns of the same row, BLANK if one of both is BLANK" */
    static void addAndTimesAreBlankIfOneOfBothIs() {
        ClubBase b = wide();
        b.addReckoned(0, ADD, 0, 1, -5);
        b.addReckoned(0, TIMES, 1, 0, 99);
        Club.enter(b, 0, 0, 0);
        cells("zeros", b, 0, 0, 0, 0, B, 0, 0);
        Club.enter(b, 0, B, 0);
        cells("one is BLANK", b, 0, 1, B, 0, B, B, B);
        Club.enter(b, 0, 0, B);
        cells("the other is BLANK", b, 0, 2, 0, B, B, B, B);
        Club.enter(b, 0, B, B, 7);
        cells("both are BLANK", b, 0, 3, B, B, 7, B, B);
        Club.enter(b, 0, -9999, 9999);
        cells("a sum of 0", b, 0, 4, -9999, 9999, B, 0, B);
        Club.enter(b, 0, -3, -4);
        cells("both below 0", b, 0, 5, -3, -4, B, -7, 12);
        b.addReckoned(0, ADD, 3, 3, 0);
        Check.due("twice the same column", b.cell(0, 5, 5), -14);
        Check.due("twice the same BLANK", b.cell(0, 3, 5), B);
    }

    /** "LOOK: the cell of a column of another row, that to which the link in this row leads, BLANK if the link is BLANK" */
    static void lookIsBlankIfTheLinkIs() {
        ClubBase b = Club.filled();
        Check.due("BLANK link", b.cell(1, 3, 3), B);
        Check.due("a link", b.cell(1, 0, 3), 50);
        b.put(1, 0, 0, 2);
        Check.due("a BLANK cell of a row", b.cell(1, 0, 3), B);
        b.put(0, 2, 1, 0);
        Check.due("0 is not BLANK", b.cell(1, 0, 3), 0);
        b.reckonAnew(1, 3, LOOK, 2, 2, 0);
        b.put(1, 0, 2, 0);
        Check.due("its own row", b.cell(1, 0, 3), 0);
        Check.due("the cell of a link", b.cell(1, 2, 3), 0);
        Check.due("the BLANK cell of a link, BLANK", b.cell(1, 3, 3), B);
        b.remove(1, 1);
        Check.due("the link became BLANK", b.cell(1, 2, 3), B);
    }

    /** LOOK is BLANK "if the link ... leads to a row that is not there": a total of it would break a rule further ahead. */
    static void lookIsBlankIfTheRowIsNotThere() {
        ClubBase b = tables(2);
        b.addNumber(0, 0, 99);
        b.addLink(1, 0, ClubBase.BLANKS);
        b.addLink(1, 0, ClubBase.BLANKS);
        b.addReckoned(1, LOOK, 1, 0, 0);
        b.addReckoned(0, TOTAL, 0, 2, 1);
        b.addRule(0, 1, ClubBase.AT_MOST, 0, 0);
        Club.enter(b, 0, 10);
        Club.enter(b, 0, 50);
        Club.enter(b, 1, 0);
        Check.due("a row that is there", b.put(1, 0, 1, 1), false);
        Check.reason("a row that is there", b, ClubBase.RULE, 0, 0, 0);
        b.remove(0, 1);
        Check.due("a row that was removed", b.put(1, 0, 1, 1), false);
        Check.reason("a row that was removed", b, ClubBase.LINK, 1, 0, 1);
        Check.due("a row that was not made", b.put(1, 0, 1, 2), false);
        Check.reason("a row that was not made", b, ClubBase.LINK, 1, 0, 1);
    }

    /** "TOTAL: the sum of the cells of a column that are not BLANK, of all rows of a table, perhaps the same, that are there and whose link leads to this row; 0 if there are none" */
    static void totalIs0IfThereAreNone() {
        ClubBase b = tables(1);
        b.addLink(0, 0, ClubBase.BLANKS);
        b.addNumber(0, -9, 9);
        b.addReckoned(0, TOTAL, 0, 1, 0);
        b.addReckoned(0, COUNT, 0, 99, 0);
        Club.enter(b, 0, B, 5);
        cells("no row leads to it", b, 0, 0, B, 5, 0, 0);
        Club.enter(b, 0, 0, B);
        cells("only a BLANK cell", b, 0, 0, B, 5, 0, 1);
        Club.enter(b, 0, 0, -7);
        Club.enter(b, 0, 0, 4);
        cells("a BLANK cell and others", b, 0, 0, B, 5, -3, 3);
        b.put(0, 0, 0, 0);
        cells("its own cell, too", b, 0, 0, 0, 5, 2, 4);
        b.remove(0, 3);
        cells("not the cell of a row that was removed", b, 0, 0, 0, 5, -2, 3);
        b.put(0, 2, 0, 1);
        cells("not the cell of a row that leads elsewhere", b, 0, 0, 0, 5, 5, 2);
        cells("that one's total", b, 0, 1, 0, B, -7, 1);
        b.put(0, 0, 0, B);
        b.put(0, 1, 0, B);
        cells("none again", b, 0, 0, B, 5, 0, 0);
    }

    /** "COUNT: the number of these rows", BLANK cells or not, up to all 30 */
    static void countIsTheNumberOfTheseRows() {
        ClubBase b = tables(2);
        b.addLink(1, 0, ClubBase.FOLLOWS);
        b.addNumber(1, 1, 9);
        b.addReckoned(0, COUNT, 0, 1, 1);
        b.addReckoned(0, TOTAL, 0, 1, 1);
        b.enter(0);
        b.enter(0);
        for (int r = 0; r < 30; r++) Club.enter(b, 1, 1, r == 29 ? 9 : B);
        cells("of none", b, 0, 0, 0, 0);
        cells("of thirty", b, 0, 1, 30, 9);
        b.remove(1, 29);
        cells("of those that are there", b, 0, 1, 29, 0);
        b.put(1, 0, 0, B);
        cells("of those that lead to it", b, 0, 1, 28, 0);
        b.remove(0, 1);
        Check.due("all of them followed", b.isThere(1, 28), false);
        cells("of none, too", b, 0, 0, 0, 0);
    }

    /** "A number below -999999 or above 999999 that would come of it is BLANK": of ADD. */
    static void sumsBeyond999999AreBlank() {
        ClubBase b = wide();
        b.addReckoned(0, TIMES, 0, 1, 0);
        b.addReckoned(0, ADD, 3, 2, 0);
        b.addReckoned(0, ADD, 4, 2, 0);
        Club.enter(b, 0, 9999, 100, 99);
        cells("999999, and above it", b, 0, 0, 9999, 100, 99, 999900, 999999, B);
        b.put(0, 0, 2, 100);
        cells("1000000, and what uses it", b, 0, 0, 9999, 100, 100, 999900, B, B);
        Club.enter(b, 0, -9999, 100, -99);
        cells("-999999, and below it", b, 0, 1, -9999, 100, -99, -999900, -999999, B);
        b.put(0, 1, 2, -100);
        cells("-1000000, and what uses it", b, 0, 1, -9999, 100, -100, -999900, B, B);
    }

    /** "A number below -999999 or above 999999 that would come of it is BLANK": of TIMES, also where 32 bits wrap around. */
    static void productsBeyond999999AreBlank() {
        ClubBase b = wide();
        b.addReckoned(0, TIMES, 0, 1, 0);
        b.addReckoned(0, TIMES, 3, 3, 0);
        b.addReckoned(0, TIMES, 3, 2, 0);
        Club.enter(b, 0, 999, 1001, 0);
        cells("999999", b, 0, 0, 999, 1001, 0, 999999, B, 0);
        b.put(0, 0, 0, -999);
        cells("-999999", b, 0, 0, -999, 1001, 0, -999999, B, 0);
        Club.enter(b, 0, 1000, 1000, 0);
        cells("1000000", b, 0, 1, 1000, 1000, 0, B, B, B);
        b.put(0, 1, 1, -1000);
        cells("-1000000", b, 0, 1, 1000, -1000, 0, B, B, B);
        Club.enter(b, 0, 256, 256, 1);
        cells("65536 times itself wraps to 0", b, 0, 2, 256, 256, 1, 65536, B, 65536);
        Club.enter(b, 0, 512, 1024, 8192);
        cells("524288 times 8192 wraps to 0", b, 0, 3, 512, 1024, 8192, 524288, B, B);
        b.put(0, 3, 2, -8192);
        cells("524288 times -8192 wraps to 0", b, 0, 3, 512, 1024, -8192, 524288, B, B);
        Club.enter(b, 0, 9999, -9999, 1);
        cells("the greatest product of cells", b, 0, 4, 9999, -9999, 1, B, B, B);
    }

    /** "A number below -999999 or above 999999 that would come of it is BLANK": of TOTAL, but not of what it is on the way. */
    static void totalsBeyond999999AreBlank() {
        for (int sign = -1; sign <= 1; sign += 2) {
            ClubBase b = tables(1);
            b.addNumber(0, -9999, 9999);
            b.addNumber(0, -9999, 9999);
            b.addLink(0, 0, ClubBase.BLANKS);
            b.addReckoned(0, TIMES, 0, 1, 0);
            b.addReckoned(0, TOTAL, 2, 3, 0);
            b.addReckoned(0, ADD, 4, 4, 0);
            Club.enter(b, 0, sign * 999, 1001, 0);
            cells("999999", b, 0, 0, sign * 999, 1001, 0, sign * 999999, sign * 999999, B);
            Club.enter(b, 0, sign, 1, 0);
            Check.due("1000000", b.cell(0, 0, 4), B);
            Club.enter(b, 0, -sign, 1, 0);
            Check.due("over 1000000 on the way", b.cell(0, 0, 4), sign * 999999);
            b.put(0, 0, 2, 1);
            b.put(0, 2, 2, 1);
            b.put(0, 2, 0, sign);
            Check.due("1000000 elsewhere", b.cell(0, 1, 4), B);
            b.put(0, 0, 0, sign * 499);
            Check.due("499499 and 1", b.cell(0, 1, 4), sign * 499500);
            Check.due("twice that", b.cell(0, 1, 5), sign * 999000);
        }
        ClubBase most = tables(1);
        most.addNumber(0, 0, 999);
        most.addNumber(0, 0, 1001);
        most.addLink(0, 0, ClubBase.BLANKS);
        most.addReckoned(0, TIMES, 0, 1, 0);
        most.addReckoned(0, TOTAL, 2, 3, 0);
        for (int r = 0; r < 30; r++) Club.enter(most, 0, 999, 1001, 0);
        Check.due("thirty times 999999", most.cell(0, 0, 4), B);
        Check.due("none", most.cell(0, 29, 4), 0);
    }

    /** Tables 0 to 3 with as many reckoned columns as there can be: 3 in the first, 6 in each other. */
    private static ClubBase manyReckoned() {
        ClubBase b = tables(4);
        for (int t = 1; t < 4; t++) b.addLink(0, t, ClubBase.BLANKS);
        for (int t = 3; t > 0; t--) {
            b.addReckoned(t, COUNT, t - 1, 77, 0);
            for (int c = 1; c < 6; c++) b.addReckoned(t, ADD, c - 1, c - 1, 0);
        }
        b.addReckoned(0, LOOK, 2, 5, 0);
        b.addReckoned(0, LOOK, 1, 5, 0);
        b.addReckoned(0, ADD, 3, 4, 0);
        return b;
    }

    /** "reckoned columns are reckoned in an order in which each comes behind all that it uses: ... that is in the lowest table, there the lowest column" */
    static void theOrderTakesTheLowestThatCanCome() {
        ClubBase b = manyReckoned();
        int[] due = {10, 11, 12, 13, 14, 15, 20, 21, 22, 23, 24, 25, 4, 30, 31, 32, 33, 34, 35, 3, 5};
        for (int place = 0; place < due.length; place++) Check.due("place " + place, b.order(place), due[place]);
        Check.thrown("21 reckoned columns", Check.INDEX, b, x -> x.order(21));
        Check.thrown("none ahead of place 0", Check.INDEX, b, x -> x.order(-1));
        for (int t = 1; t < 4; t++) b.enter(t);
        Club.enter(b, 0, 0, 0, 0);
        Check.due("2 to the fifth", b.cell(1, 0, 5), 32);
        cells("all at once", b, 0, 0, 0, 0, 0, 32, 32, 64);
        b.reckonAnew(1, 0, TOTAL, 0, 5, 0);
        int[] behind = {20, 21, 22, 23, 24, 25, 4, 30, 31, 32, 33, 34, 35, 3, 5, 10, 11, 12, 13, 14, 15};
        for (int place = 0; place < behind.length; place++) Check.due("behind, place " + place, b.order(place), behind[place]);
        Check.due("a chain over four tables", b.cell(1, 0, 5), 2048);
        b.drop(0, 4);
        Check.due("used", b.reason(), ClubBase.USED);
        b.drop(1, 5);
        Check.due("one fewer", b.order(19), 14);
        Check.thrown("20 are left", Check.INDEX, b, x -> x.order(20));
    }

    /** In one table a higher column can come ahead of a lower one that uses it. */
    static void aHigherColumnComesAheadOfOneThatUsesIt() {
        ClubBase b = wide();
        b.addReckoned(0, ADD, 0, 0, 0);
        b.addReckoned(0, ADD, 1, 1, 0);
        b.addReckoned(0, ADD, 2, 2, 0);
        b.reckonAnew(0, 3, ADD, 4, 0, 0);
        Check.due("4 comes first", b.order(0), 4);
        Check.due("then the lowest, 3", b.order(1), 3);
        Check.due("then 5", b.order(2), 5);
        b.reckonAnew(0, 4, TIMES, 2, 5, 0);
        Check.due("5 comes first", b.order(0), 5);
        Check.due("then 4", b.order(1), 4);
        Check.due("then 3", b.order(2), 3);
        Club.enter(b, 0, 1, 2, 3);
        cells("all are reckoned", b, 0, 0, 1, 2, 3, 19, 18, 6);
    }

    /** "No column may use itself, directly or over others": over columns of all tables, and over links. */
    static void noColumnMayUseItself() {
        ClubBase b = manyReckoned();
        Check.due("directly", b.reckonAnew(1, 3, ADD, 3, 0, 0), false);
        Check.reason("directly", b, ClubBase.CIRCLE, 1, -1, 3);
        Check.due("as the second column", b.reckonAnew(1, 3, TIMES, 0, 3, 0), false);
        Check.due("over one other", b.reckonAnew(1, 3, ADD, 4, 0, 0), false);
        Check.due("over all of two tables", b.reckonAnew(3, 0, TOTAL, 2, 3, 0), false);
        Check.reason("over all of two tables", b, ClubBase.CIRCLE, 3, -1, 0);
        Check.due("over a TOTAL and a LOOK", b.reckonAnew(2, 0, TOTAL, 1, 5, 0), false);
        Check.due("a COUNT takes cells of links alone", b.reckonAnew(2, 0, COUNT, 1, 5, 0), true);
        Check.due("no circle", b.reckonAnew(1, 0, TOTAL, 0, 5, 0), true);
        Check.due("that closes another one", b.reckonAnew(0, 3, LOOK, 0, 5, 0), false);
        Check.reason("that closes another one", b, ClubBase.CIRCLE, 0, -1, 3);
        Check.due("the order is as it was", b.order(20), 15);
    }

    /** "Rules are numbered from 0; at most 8 are made": in all tables together, those that were dropped counted. */
    static void atMost8Rules() {
        ClubBase b = tables(2);
        b.addNumber(0, 0, 9);
        b.addNumber(1, 0, 9);
        for (int rule = 0; rule < 8; rule++) {
            Check.due("rule", b.addRule(rule % 2, 0, ClubBase.BOTH, 0, 0), rule);
        }
        Check.thrown("a ninth", Check.STATE, b, x -> x.addRule(0, 0, 0, 0, 0));
        b.dropRule(7);
        b.dropRule(0);
        Check.thrown("a ninth, with two dropped", Check.STATE, b, x -> x.addRule(1, 0, 0, 0, 0));
    }

    /** "no rule is made then": a refused one takes no number. */
    static void aRefusedRuleTakesNoNumber() {
        ClubBase b = Club.small();
        Club.enter(b, 0, 3, 2);
        for (int rule = 0; rule < 8; rule++) {
            Check.due("refused", b.addRule(0, 0, ClubBase.AT_MOST, 1, 0), -1);
            Check.reason("refused", b, ClubBase.RULE, 0, 0, rule);
            Check.due("made", b.addRule(0, 0, ClubBase.AT_MOST, 1, 1), rule);
        }
    }

    private static boolean holds(int relation, int more, int one, int other) {
        ClubBase b = wide();
        b.addRule(0, 0, relation, 1, more);
        return Club.enter(b, 0, one, other) == 0;
    }

    /** "AT_MOST, one is at most other and more together" */
    static void atMost() {
        Check.due("less", holds(ClubBase.AT_MOST, 3, 7, 5), true);
        Check.due("just as much", holds(ClubBase.AT_MOST, 3, 8, 5), true);
        Check.due("one more", holds(ClubBase.AT_MOST, 3, 9, 5), false);
        Check.due("more below 0", holds(ClubBase.AT_MOST, -3, 2, 5), true);
        Check.due("more below 0, one more", holds(ClubBase.AT_MOST, -3, 3, 5), false);
        Check.due("all at the end", holds(ClubBase.AT_MOST, -9999, -9999, 0), true);
        Check.due("beyond the end", holds(ClubBase.AT_MOST, -9999, -9999, -1), false);
        Check.due("both ends", holds(ClubBase.AT_MOST, 9999, 9999, -9999), false);
        Check.due("to 0", holds(ClubBase.AT_MOST, 9999, 0, -9999), true);
    }

    /** "ALIKE, one is other and more together; UNLIKE, it is not" */
    static void alikeAndUnlike() {
        int[][] cells = {{8, 5}, {7, 5}, {9, 5}, {2, 5}, {5, 5}, {9999, 9996}, {-9996, -9999}, {3, 0}, {0, -3}};
        for (int[] c : cells) {
            boolean alike = c[0] - c[1] == 3;
            Check.due("alike " + c[0] + ", " + c[1], holds(ClubBase.ALIKE, 3, c[0], c[1]), alike);
            Check.due("unlike " + c[0] + ", " + c[1], holds(ClubBase.UNLIKE, 3, c[0], c[1]), !alike);
        }
        Check.due("alike, more below 0", holds(ClubBase.ALIKE, -3, 2, 5), true);
        Check.due("unlike, more below 0", holds(ClubBase.UNLIKE, -3, 2, 5), false);
    }

    /** "each of these holds also if one of both cells is BLANK" */
    static void relationsHoldIfACellIsBlank() {
        for (int relation = ClubBase.AT_MOST; relation <= ClubBase.UNLIKE; relation++) {
            for (int more = -9999; more <= 9999; more += 9999) {
                Check.due("one is BLANK", holds(relation, more, B, -9999), true);
                Check.due("one is BLANK, other is great", holds(relation, more, B, 9999), true);
                Check.due("other is BLANK", holds(relation, more, 9999, B), true);
                Check.due("other is BLANK, one is low", holds(relation, more, -9999, B), true);
                Check.due("both are BLANK", holds(relation, more, B, B), true);
            }
        }
    }

    /** "BOTH: both cells are BLANK, or none of them", whatever more is */
    static void both() {
        for (int more = -9999; more <= 9999; more += 9999) {
            Check.due("both are BLANK", holds(ClubBase.BOTH, more, B, B), true);
            Check.due("none is BLANK", holds(ClubBase.BOTH, more, 0, 9999), true);
            Check.due("one is BLANK", holds(ClubBase.BOTH, more, B, 0), false);
            Check.due("other is BLANK", holds(ClubBase.BOTH, more, 0, B), false);
        }
    }

    /** "for two of its columns, one and other, reckoned ones too", with the greatest numbers that there are */
    static void rulesForReckonedColumns() {
        ClubBase b = wide();
        b.addReckoned(0, TIMES, 0, 1, 0);
        b.addReckoned(0, TIMES, 1, 2, 0);
        Club.enter(b, 0, 999, 1001, 989);
        cells("numbers", b, 0, 0, 999, 1001, 989, 999999, 989989);
        Check.due("10009 under", b.addRule(0, 3, ClubBase.AT_MOST, 4, 9999), -1);
        b.put(0, 0, 2, 990);
        Check.due("9009 under", b.addRule(0, 3, ClubBase.ALIKE, 4, 9009), 0);
        Check.due("an overflow is BLANK", b.put(0, 0, 0, 1000), true);
        Check.due("held", b.put(0, 0, 0, 998), false);
        Check.reason("held", b, ClubBase.RULE, 0, 0, 0);
        Check.due("the same column", b.addRule(0, 4, ClubBase.AT_MOST, 4, 0), 1);
        Check.due("the same column, one less", b.addRule(0, 4, ClubBase.AT_MOST, 4, -1), -1);
        Check.due("the same column, BOTH", b.addRule(0, 3, ClubBase.BOTH, 3, 0), 2);
    }

    /** "A rule that was dropped does not count any more." */
    static void aDroppedRuleDoesNotCount() {
        ClubBase b = Club.small();
        b.addRule(0, 0, ClubBase.AT_MOST, 1, 0);
        Check.due("held", Club.enter(b, 0, 2, 1), -1);
        b.dropRule(0);
        Check.due("not held", Club.enter(b, 0, 2, 1), 0);
        Check.due("nothing is broken", b.broken(), 0);
        Check.due("its columns are free", b.drop(0, 0) && b.drop(0, 1), true);
    }

    public static void main(String[] args) {
        Check.methods(TablesEdgeTest.class);
    }
}
