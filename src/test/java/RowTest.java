/** Promises 22 to 32: the draft, rows and forms. */
public final class RowTest {
    private static final int B = ClubBase.BLANK;

    private static void promise22Type() {
        ClubBase b = Club.small();
        Check.due("22 BLANK at first", b.type(0, 5), B);
        Check.due("22 before", b.type(0, -9999), 5);
        Check.due("22 below 0", b.type(0, B), -9999);
        Check.due("22 BLANK again", b.type(0, 9999), B);
        Check.due("22 last cell", b.type(5, 1), B);
        Check.due("22 all of them", b.clearDraft(), 2);
        Check.wrong("22 column", Check.ARGUMENT, Club::all, x -> x.type(6, 0));
        Check.wrong("22 column below", Check.ARGUMENT, Club::all, x -> x.type(-1, 0));
        Check.wrong("22 value", Check.ARGUMENT, Club::all, x -> x.type(0, 10000));
        Check.wrong("22 value below", Check.ARGUMENT, Club::all, x -> x.type(0, -10000));
        Check.wrong("22 near BLANK", Check.ARGUMENT, Club::all, x -> x.type(0, -1000001));
    }

    private static void promise23ClearDraft() {
        ClubBase b = Club.small();
        Check.due("23 empty", b.clearDraft(), 0);
        b.type(0, 0);
        b.type(5, -1);
        b.enter(0);
        b.type(1, 99);
        b.type(4, 1);
        b.type(4, B);
        b.enter(0);
        Check.due("23 filled", b.clearDraft(), 1);
        Check.due("23 again", b.clearDraft(), 0);
        Check.reason("23 the reason stays", b, ClubBase.RANGE, 0, 1, 1);
    }

    private static void promise24Enter() {
        ClubBase b = Club.filled();
        b.type(0, 4);
        b.type(1, -50);
        b.type(2, 88);
        b.type(5, 88);
        Check.due("24 number", b.enter(0), 3);
        Check.due("24 cell", b.cell(0, 3, 0), 4);
        Check.due("24 reckoned cell", b.cell(0, 3, 2), 0);
        Check.due("24 draft", b.clearDraft(), 0);
        Check.due("24 BLANK row", b.enter(0), 4);
        Check.due("24 BLANK cell", b.cell(0, 4, 0), B);
        b.remove(0, 4);
        Check.due("24 no number again", b.enter(0), 5);
        b.type(0, 10);
        Check.due("24 refused", b.enter(0), -1);
        Check.reason("24 refused", b, ClubBase.RANGE, 0, 6, 0);
        Check.due("24 no row", b.rows(0), 6);
        Check.due("24 draft stays", b.type(0, 9), 10);
        Check.due("24 entered", b.enter(0), 6);
        Check.due("24 a link to itself", Club.enter(b, 1, 0, 0, 4), 4);
        Check.due("24 a link to a later row", Club.enter(b, 1, 0, 0, 6), -1);
        b.put(0, 3, 1, B);
        b.addRule(0, 2, ClubBase.AT_MOST, 1, 0);
        Check.due("24 breaks a rule elsewhere", Club.enter(b, 1, 0, 21), -1);
        Check.reason("24 breaks a rule elsewhere", b, ClubBase.RULE, 0, 0, 0);
        Check.due("24 totals as they were", b.cell(0, 0, 2), 30);
        Check.wrong("24 table", Check.INDEX, Club::all, x -> x.enter(3));
        Check.wrong("24 table below", Check.INDEX, Club::all, x -> x.enter(-1));
        Check.wrong("24 thirty", Check.STATE, RowTest::thirty, x -> x.enter(2));
    }

    private static void thirty(ClubBase b) {
        Club.all(b);
        for (int r = 1; r < 30; r++) Club.enter(b, 2);
        b.remove(2, 29);
        b.type(0, 1);
    }

    private static void promise25Put() {
        ClubBase b = Club.filled();
        Check.due("25 put", b.put(1, 1, 1, 100), true);
        Check.due("25 cell", b.cell(1, 1, 1), 100);
        Check.due("25 total", b.cell(0, 1, 2), 100);
        Check.due("25 above", b.put(1, 1, 1, 101), false);
        Check.reason("25 above", b, ClubBase.RANGE, 1, 1, 1);
        Check.due("25 as it was", b.cell(1, 1, 1), 100);
        Check.due("25 link", b.put(1, 1, 0, 0), true);
        Check.due("25 totals", b.cell(0, 0, 2), 130);
        Check.due("25 look", b.cell(1, 1, 3), 50);
        Check.due("25 no row", b.put(1, 1, 0, 3), false);
        Check.reason("25 no row", b, ClubBase.LINK, 1, 1, 0);
        Check.due("25 BLANK", b.put(1, 1, 0, B), true);
        Check.due("25 BLANK look", b.cell(1, 1, 3), B);
        b.remove(0, 2);
        Check.due("25 a removed row", b.put(1, 1, 0, 2), false);
        Check.wrong("25 table", Check.INDEX, Club::all, x -> x.put(3, 0, 0, 10000));
        Check.wrong("25 row", Check.INDEX, Club::all, x -> x.put(0, 3, 0, 10000));
        Check.wrong("25 removed row", Check.INDEX, x -> { Club.all(x); x.remove(2, 0); }, x -> x.put(2, 0, 1, 1));
        Check.wrong("25 column", Check.INDEX, Club::all, x -> x.put(0, 0, 4, 10000));
        Check.wrong("25 reckoned", Check.ARGUMENT, Club::all, x -> x.put(0, 0, 2, 0));
        Check.wrong("25 value", Check.ARGUMENT, Club::all, x -> x.put(0, 0, 0, -10000));
        Check.wrong("25 dropped", Check.ARGUMENT, x -> { Club.all(x); x.drop(2, 1); }, x -> x.put(2, 0, 1, 1));
    }

    private static void promise26Remove() {
        ClubBase b = Club.filled();
        Check.due("26 forbidden", b.remove(0, 1), false);
        Check.reason("26 the first such cell", b, ClubBase.FORBIDDEN, 1, 1, 0);
        Check.due("26 still there", b.isThere(0, 1), true);
        Check.due("26 blanks, and lets follow", b.remove(1, 1), true);
        Check.due("26 followed", b.isThere(2, 0), false);
        Check.due("26 BLANK", b.cell(1, 2, 2), B);
        Check.due("26 others stay", b.cell(1, 2, 0), 1);
        Check.due("26 total anew", b.cell(0, 1, 2), 0);
        Check.due("26 nothing leads to it", b.remove(0, 2), true);
        b.put(1, 2, 2, 0);
        b.need(1, 2, false);
        b.put(1, 0, 2, 0);
        b.remove(1, 3);
        b.need(1, 2, true);
        Check.due("26 needed", b.remove(1, 0), false);
        Check.reason("26 needed", b, ClubBase.NEED, 1, 2, 2);
        Check.due("26 as it was", b.cell(1, 2, 2), 0);
        Check.due("26 as it was, too", b.isThere(1, 0), true);
        promise26Chains();
        Check.wrong("26 table", Check.INDEX, Club::all, x -> x.remove(3, 0));
        Check.wrong("26 row", Check.INDEX, Club::all, x -> x.remove(0, -1));
        Check.wrong("26 removed row", Check.INDEX, x -> { Club.all(x); x.remove(2, 0); }, x -> x.remove(2, 0));
    }

    private static void promise26Chains() {
        ClubBase b = new ClubBase();
        b.addTable();
        b.addLink(0, 0, ClubBase.FOLLOWS);
        b.addLink(0, 0, ClubBase.FORBIDS);
        b.addLink(0, 0, ClubBase.BLANKS);
        Club.enter(b, 0, 0, 0, 0);
        Club.enter(b, 0, 0, 0, 0);
        Club.enter(b, 0, 1, 0, 1);
        Club.enter(b, 0, B, B, 2);
        Club.enter(b, 0, 3, 2, 1);
        Check.due("26 forbidden over links that follow", b.remove(0, 0), false);
        Check.reason("26 forbidden over links that follow", b, ClubBase.FORBIDDEN, 0, 4, 1);
        Check.due("26 nothing is blanked", b.cell(0, 3, 2), 2);
        b.put(0, 4, 1, B);
        Check.due("26 a chain", b.remove(0, 0), true);
        for (int r = 0; r < 5; r++) Check.due("26 chain row " + r, b.isThere(0, r), r > 2);
        Check.due("26 blank of a chain", b.cell(0, 3, 2), B);
        Check.due("26 blank of a row that goes", b.cell(0, 4, 2), B);
        Check.due("26 link between rows that stay", b.cell(0, 4, 0), 3);
        b.put(0, 3, 0, 4);
        Check.due("26 a ring", b.remove(0, 4), true);
        Check.due("26 ring row", b.isThere(0, 3), false);
        promise26Six();
    }

    /** All six links of the first row lead to the row that goes. */
    private static void promise26Six() {
        ClubBase b = new ClubBase();
        b.addTable();
        for (int c = 0; c < 6; c++) b.addLink(0, 0, ClubBase.BLANKS);
        b.enter(0);
        b.enter(0);
        for (int c = 0; c < 6; c++) b.put(0, 0, c, 1);
        Check.due("26 six links", b.remove(0, 1), true);
        for (int c = 0; c < 6; c++) Check.due("26 link " + c, b.cell(0, 0, c), B);
        b.enter(0);
        b.put(0, 0, 5, 2);
        b.setRemoval(0, 5, ClubBase.FORBIDS);
        Check.due("26 forbidden by the first row", b.remove(0, 2), false);
        Check.reason("26 forbidden by the first row", b, ClubBase.FORBIDDEN, 0, 0, 5);
        b.setRemoval(0, 5, ClubBase.BLANKS);
        b.need(0, 5, false);
        b.put(0, 2, 5, 2);
        b.need(0, 5, true);
        b.put(0, 0, 4, 0);
        Check.due("26 needed by the first row", b.remove(0, 2), false);
        Check.due("26 the cell that was put", b.cell(0, 0, 4), 0);
        b.need(0, 5, false);
        b.setRemoval(0, 5, ClubBase.FOLLOWS);
        Check.due("26 followed by the first row", b.remove(0, 2), true);
        Check.due("26 first row", b.isThere(0, 0), false);
    }

    private static void promise27OpenForm() {
        ClubBase b = Club.filled();
        b.openForm(0, 1);
        Check.due("27 open", b.enterInside(1, 0), 4);
        Check.due("27 its row", b.cell(1, 4, 0), 1);
        b.openForm(0, 2);
        Check.due("27 in place of the other", b.enterInside(1, 0), 5);
        Check.due("27 its row, too", b.cell(1, 5, 0), 2);
        Check.wrong("27 table", Check.INDEX, Club::all, x -> x.openForm(3, 0));
        Check.wrong("27 row", Check.INDEX, Club::all, x -> x.openForm(1, 4));
        Check.wrong("27 removed row", Check.INDEX, x -> { Club.all(x); x.remove(2, 0); }, x -> x.openForm(2, 0));
    }

    private static void promise28EnterInside() {
        ClubBase b = Club.filled();
        b.openForm(0, 1);
        b.type(0, 0);
        b.type(1, 8);
        Check.due("28 entered", b.enterInside(1, 0), 4);
        Check.due("28 the row of the form", b.cell(1, 4, 0), 1);
        Check.due("28 the draft", b.cell(1, 4, 1), 8);
        Check.due("28 draft is BLANK", b.clearDraft(), 0);
        b.type(1, 101);
        Check.due("28 refused", b.enterInside(1, 0), -1);
        Check.reason("28 refused", b, ClubBase.RANGE, 1, 5, 1);
        Check.due("28 draft stays", b.clearDraft(), 1);
        b.openForm(1, 2);
        b.type(0, 2);
        Check.due("28 the same table", b.enterInside(1, 2), 5);
        Check.due("28 the draft's link", b.cell(1, 5, 0), 2);
        Check.due("28 the form's link", b.cell(1, 5, 2), 2);
        promise28Gone();
        Check.wrong("28 table", Check.INDEX, RowTest::noForm, x -> x.enterInside(3, 0));
        Check.wrong("28 column", Check.INDEX, RowTest::noForm, x -> x.enterInside(1, 4));
        Check.wrong("28 no form", Check.STATE, RowTest::noForm, x -> x.enterInside(1, 1));
        Check.wrong("28 no link", Check.ARGUMENT, Club::all, x -> x.enterInside(1, 1));
        Check.wrong("28 link elsewhere", Check.ARGUMENT, Club::all, x -> x.enterInside(1, 2));
        Check.wrong("28 thirty before the link", Check.STATE, RowTest::thirty, x -> x.enterInside(2, 1));
        Check.wrong("28 row is gone", Check.STATE, RowTest::formGone, x -> x.enterInside(1, 0));
    }

    private static void noForm(ClubBase b) {
        Club.design(b);
        Club.rows(b);
        b.type(1, 1);
        b.put(0, 0, 0, 10);
    }

    private static void formGone(ClubBase b) {
        Club.all(b);
        b.openForm(0, 2);
        b.remove(0, 2);
        b.type(1, 1);
    }

    /** A row that an act made and that is taken back is gone, also if its number is used again. */
    private static void promise28Gone() {
        ClubBase b = Club.small();
        b.addLink(0, 0, ClubBase.BLANKS);
        b.addAct();
        b.stepAdd(0, 0);
        b.run(0);
        b.openForm(0, 0);
        b.undo();
        Check.due("28 another row", b.enter(0), 0);
        boolean thrown = false;
        try {
            b.enterInside(0, 2);
        } catch (IllegalStateException e) {
            thrown = true;
        }
        Check.due("28 not that at which it was opened", thrown, true);
        b.openForm(0, 0);
        b.ask(0, -1);
        b.addAct();
        b.stepRemove(1, 0, 0);
        b.run(1);
        b.undo();
        Check.due("28 the same row again", b.enterInside(0, 2), 1);
    }

    private static void promise29Choice() {
        ClubBase b = Club.filled();
        b.addRule(0, 2, ClubBase.AT_MOST, 1, 0);
        b.put(1, 0, 0, 77);
        Check.due("29 first", b.choice(1, 0, 0, 0), 0);
        Check.due("29 a rule forbids the next", b.choice(1, 0, 0, 1), 2);
        Check.due("29 from", b.choice(1, 1, 0, 1), 1);
        Check.due("29 the last", b.choice(1, 1, 0, 2), 2);
        Check.due("29 none", b.choice(1, 1, 0, 3), -1);
        Check.due("29 far", b.choice(1, 1, 0, 2147483647), -1);
        Check.due("29 cell stays", b.cell(1, 1, 0), 1);
        Check.due("29 total stays", b.cell(0, 1, 2), 15);
        Check.reason("29 the reason stays", b, ClubBase.LINK, 1, 0, 0);
        b.remove(0, 2);
        Check.due("29 not a removed row", b.choice(1, 0, 0, 1), -1);
        b.put(1, 3, 2, 2);
        b.single(1, 2, true);
        Check.due("29 single", b.choice(1, 0, 2, 0), 3);
        Check.wrong("29 table", Check.INDEX, Club::all, x -> x.choice(3, 0, 0, 0));
        Check.wrong("29 row", Check.INDEX, Club::all, x -> x.choice(1, 4, 0, -1));
        Check.wrong("29 column", Check.INDEX, Club::all, x -> x.choice(1, 0, 4, -1));
        Check.wrong("29 no link", Check.ARGUMENT, Club::all, x -> x.choice(1, 0, 1, 0));
        Check.wrong("29 from below 0", Check.ARGUMENT, Club::all, x -> x.choice(1, 0, 0, -1));
        ClubBase acts = Club.small();
        acts.addLink(0, 0, ClubBase.BLANKS);
        acts.enter(0);
        acts.addAct();
        acts.run(0);
        Check.due("29 is no change", acts.choice(0, 0, 2, 0), 0);
        Check.due("29 acts can be taken back", acts.undoable(), 1);
    }

    private static void promise30Cell() {
        ClubBase b = Club.filled();
        Check.due("30 number", b.cell(0, 1, 1), 20);
        Check.due("30 BLANK", b.cell(0, 2, 1), B);
        Check.due("30 link", b.cell(1, 1, 0), 1);
        Check.due("30 reckoned", b.cell(0, 1, 2), 15);
        Check.wrong("30 table", Check.INDEX, Club::all, x -> x.cell(-1, 0, 0));
        Check.wrong("30 row", Check.INDEX, Club::all, x -> x.cell(0, 3, 0));
        Check.wrong("30 removed row", Check.INDEX, x -> { Club.all(x); x.remove(2, 0); }, x -> x.cell(2, 0, 0));
        Check.wrong("30 column", Check.INDEX, Club::all, x -> x.cell(0, 0, 4));
        Check.wrong("30 column below", Check.INDEX, Club::all, x -> x.cell(0, 0, -1));
    }

    private static void promise31IsThere() {
        ClubBase b = Club.filled();
        Check.due("31 there", b.isThere(0, 2), true);
        Check.due("31 not made", b.isThere(0, 3), false);
        Check.due("31 below", b.isThere(0, -1), false);
        Check.due("31 far", b.isThere(0, 2147483647), false);
        b.remove(0, 2);
        Check.due("31 removed", b.isThere(0, 2), false);
        Check.wrong("31 table", Check.INDEX, Club::all, x -> x.isThere(3, 0));
    }

    private static void promise32Rows() {
        ClubBase b = Club.filled();
        Check.due("32 made", b.rows(1), 4);
        b.remove(1, 3);
        Check.due("32 removed ones count", b.rows(1), 4);
        b.addAct();
        b.stepAdd(0, 1);
        b.run(0);
        Check.due("32 by an act", b.rows(1), 5);
        b.undo();
        Check.due("32 taken back", b.rows(1), 4);
        Check.wrong("32 table", Check.INDEX, Club::all, x -> x.rows(3));
    }

    public static void main(String[] args) {
        promise22Type();
        promise23ClearDraft();
        promise24Enter();
        promise25Put();
        promise26Remove();
        promise27OpenForm();
        promise28EnterInside();
        promise29Choice();
        promise30Cell();
        promise31IsThere();
        promise32Rows();
        Check.end("RowTest");
    }
}
