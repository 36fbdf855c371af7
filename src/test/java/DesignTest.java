/** Promises 1 to 21: the design, and what is told of refusals. */
public final class DesignTest {
    private static final int B = ClubBase.BLANK;

    private static void promise01NewObject() {
        ClubBase b = new ClubBase();
        Check.due("1 undoable", b.undoable(), 0);
        Check.due("1 broken", b.broken(), 0);
        Check.due("1 draft", b.clearDraft(), 0);
        Check.reason("1", b, 0, -1, -1, -1);
        Check.wrong("1 no table", Check.INDEX, x -> { }, x -> x.rows(0));
        Check.wrong("1 no question", Check.INDEX, x -> { }, x -> x.answers(0));
        Check.wrong("1 no act", Check.INDEX, x -> { }, x -> x.run(0));
        Check.wrong("1 no rule", Check.INDEX, x -> { }, x -> x.dropRule(0));
        Check.wrong("1 no order", Check.INDEX, x -> { }, x -> x.order(0));
        Check.wrong("1 no undo", Check.STATE, x -> { }, ClubBase::undo);
    }

    private static void promise02AddTable() {
        ClubBase b = new ClubBase();
        for (int t = 0; t < 4; t++) Check.due("2 addTable", b.addTable(), t);
        Check.due("2 rows", b.rows(3), 0);
        Check.due("2 columns", b.addNumber(3, 0, 1), 0);
        Check.wrong("2 a fifth table", Check.STATE, x -> { for (int t = 0; t < 4; t++) x.addTable(); }, ClubBase::addTable);
    }

    private static void promise03AddNumber() {
        ClubBase b = Club.small();
        Check.due("3 third", b.addNumber(0, -9999, 9999), 2);
        Check.due("3 least is most", b.addNumber(0, 4, 4), 3);
        Check.due("3 entered", Club.enter(b, 0, 0, 9, -9999, 4), 0);
        Check.due("3 above", Club.enter(b, 0, 10), -1);
        Check.reason("3 above", b, ClubBase.RANGE, 0, 1, 0);
        Check.due("3 below", Club.enter(b, 0, B, B, B, 3), -1);
        Check.due("3 later column", b.addNumber(0, 0, 9), 4);
        Check.due("3 later cell", b.cell(0, 0, 4), B);
        Check.wrong("3 table first", Check.INDEX, Club::all, x -> x.addNumber(3, 5, 4));
        Check.wrong("3 below -9999", Check.ARGUMENT, Club::all, x -> x.addNumber(0, -10000, 0));
        Check.wrong("3 above 9999", Check.ARGUMENT, Club::all, x -> x.addNumber(0, 0, 10000));
        Check.wrong("3 least above most", Check.ARGUMENT, Club::all, x -> x.addNumber(0, 5, 4));
        Check.wrong("3 six columns", Check.STATE, DesignTest::sixColumns, x -> x.addNumber(0, 0, 9));
        Check.wrong("3 range before six columns", Check.ARGUMENT, DesignTest::sixColumns, x -> x.addNumber(0, 9, 0));
    }

    private static void sixColumns(ClubBase b) {
        Club.all(b);
        b.addNumber(0, 0, 9);
        b.drop(0, 4);
        b.addNumber(0, 0, 9);
        b.put(0, 0, 0, 10);
    }

    private static void promise04AddLink() {
        ClubBase b = Club.small();
        b.addTable();
        Check.due("4 to another", b.addLink(1, 0, ClubBase.FORBIDS), 0);
        Check.due("4 to itself", b.addLink(1, 1, ClubBase.FOLLOWS), 1);
        Check.due("4 no such row", Club.enter(b, 1, 0), -1);
        Check.reason("4 no such row", b, ClubBase.LINK, 1, 0, 0);
        Check.due("4 row of the first table", Club.enter(b, 0, 1), 0);
        Check.due("4 leads to the new row", Club.enter(b, 1, 0, 0), 0);
        Check.due("4 below 0", b.put(1, 0, 0, -1), false);
        Check.due("4 above all rows", b.put(1, 0, 0, 30), false);
        Check.due("4 BLANK", b.put(1, 0, 0, B), true);
        b.put(1, 0, 0, 0);
        Check.due("4 forbids", b.remove(0, 0), false);
        Check.wrong("4 table", Check.INDEX, Club::all, x -> x.addLink(3, 0, 9));
        Check.wrong("4 target", Check.INDEX, Club::all, x -> x.addLink(0, 3, 9));
        Check.wrong("4 removal", Check.ARGUMENT, Club::all, x -> x.addLink(0, 0, 3));
        Check.wrong("4 removal below", Check.ARGUMENT, Club::all, x -> x.addLink(0, 0, -1));
        Check.wrong("4 removal before six columns", Check.ARGUMENT, DesignTest::sixColumns, x -> x.addLink(0, 0, 3));
        Check.wrong("4 six columns", Check.STATE, DesignTest::sixColumns, x -> x.addLink(0, 0, 0));
    }

    private static void promise05AddReckoned() {
        ClubBase b = Club.filled();
        Check.due("5 total", b.cell(0, 0, 2), 30);
        Check.due("5 total without BLANK", b.cell(0, 1, 2), 15);
        Check.due("5 total of none", b.cell(0, 2, 2), 0);
        Check.due("5 count with BLANK", b.cell(0, 1, 3), 2);
        Check.due("5 look", b.cell(1, 1, 3), 20);
        Check.due("5 look from BLANK", b.cell(1, 3, 3), B);
        Check.due("5 add", b.addReckoned(0, ClubBase.ADD, 0, 1, -7), 4);
        Check.due("5 add over filled rows", b.cell(0, 0, 4), 51);
        Check.due("5 add with BLANK", b.cell(0, 2, 4), B);
        Check.due("5 times of reckoned", b.addReckoned(0, ClubBase.TIMES, 4, 2, 99), 5);
        Check.due("5 times", b.cell(0, 0, 5), 1530);
        b.put(1, 0, 1, 31);
        Check.due("5 times anew", b.cell(0, 0, 5), 1581);
        b.addReckoned(2, ClubBase.LOOK, 0, 3, 5);
        Check.due("5 look at a look", b.cell(2, 0, 2), 20);
        promise05Limits();
        promise05First();
        Check.wrong("5 table", Check.INDEX, Club::all, x -> x.addReckoned(3, 9, 0, 0, 0));
        Check.wrong("5 formula", Check.ARGUMENT, Club::all, x -> x.addReckoned(0, 5, 99, 99, 99));
        Check.wrong("5 formula below", Check.ARGUMENT, Club::all, x -> x.addReckoned(0, -1, 0, 0, 0));
        Check.wrong("5 add one", Check.INDEX, Club::all, x -> x.addReckoned(0, ClubBase.ADD, 4, 0, 0));
        Check.wrong("5 times two", Check.INDEX, Club::all, x -> x.addReckoned(0, ClubBase.TIMES, 0, -1, 0));
        Check.wrong("5 look one", Check.INDEX, Club::all, x -> x.addReckoned(1, ClubBase.LOOK, 4, 0, 0));
        Check.wrong("5 look no link", Check.ARGUMENT, Club::all, x -> x.addReckoned(1, ClubBase.LOOK, 1, 0, 0));
        Check.wrong("5 look two", Check.INDEX, Club::all, x -> x.addReckoned(1, ClubBase.LOOK, 0, 4, 0));
        Check.wrong("5 total other", Check.INDEX, Club::all, x -> x.addReckoned(0, ClubBase.TOTAL, 0, 1, 3));
        Check.wrong("5 total one", Check.INDEX, Club::all, x -> x.addReckoned(0, ClubBase.TOTAL, 4, 1, 1));
        Check.wrong("5 total two first", Check.INDEX, Club::all, x -> x.addReckoned(0, ClubBase.TOTAL, 1, 4, 1));
        Check.wrong("5 total no link", Check.ARGUMENT, Club::all, x -> x.addReckoned(0, ClubBase.TOTAL, 1, 1, 1));
        Check.wrong("5 count link elsewhere", Check.ARGUMENT, Club::all, x -> x.addReckoned(0, ClubBase.COUNT, 2, 99, 1));
        Check.wrong("5 dropped two", Check.ARGUMENT, DesignTest::dropped, x -> x.addReckoned(0, ClubBase.ADD, 0, 4, 0));
        Check.wrong("5 dropped link", Check.ARGUMENT, DesignTest::dropped, x -> x.addReckoned(0, ClubBase.LOOK, 4, 0, 0));
        Check.wrong("5 dropped two of LOOK", Check.ARGUMENT, DesignTest::dropped, x -> x.addReckoned(1, ClubBase.LOOK, 0, 4, 0));
        Check.wrong("5 dropped two of TOTAL", Check.ARGUMENT, x -> { Club.all(x); x.addNumber(1, 0, 9); x.drop(1, 4); }, x -> x.addReckoned(0, ClubBase.TOTAL, 0, 4, 1));
        Check.wrong("5 six columns", Check.STATE, DesignTest::sixColumns, x -> x.addReckoned(0, ClubBase.ADD, 0, 0, 0));
        Check.wrong("5 link before six columns", Check.ARGUMENT, DesignTest::sixColumns, x -> x.addReckoned(0, ClubBase.LOOK, 0, 0, 0));
    }

    private static void promise05Limits() {
        ClubBase b = new ClubBase();
        b.addTable();
        b.addNumber(0, -9999, 9999);
        b.addNumber(0, -9999, 9999);
        b.addLink(0, 0, ClubBase.BLANKS);
        b.addReckoned(0, ClubBase.TIMES, 0, 1, 0);
        b.addReckoned(0, ClubBase.TOTAL, 2, 3, 0);
        b.addReckoned(0, ClubBase.ADD, 3, 3, 0);
        Club.enter(b, 0, 9999, 100, 0);
        Check.due("5 999900", b.cell(0, 0, 3), 999900);
        Check.due("5 above 999999", b.cell(0, 0, 5), B);
        Check.due("5 itself in the total", b.cell(0, 0, 4), 999900);
        b.put(0, 0, 1, 101);
        Check.due("5 product above", b.cell(0, 0, 3), B);
        b.put(0, 0, 1, -101);
        Check.due("5 product below", b.cell(0, 0, 3), B);
        b.put(0, 0, 0, 9901);
        Check.due("5 -1000001", b.cell(0, 0, 3), B);
        b.put(0, 0, 1, 101);
        b.put(0, 0, 0, 9900);
        Check.due("5 999900 again", b.cell(0, 0, 3), 999900);
        Club.enter(b, 0, 99, 1, 0);
        Check.due("5 total 999999", b.cell(0, 0, 4), 999999);
        Club.enter(b, 0, 1, 1, 0);
        Check.due("5 total above", b.cell(0, 0, 4), B);
        Club.enter(b, 0, -9999, 1, 0);
        Check.due("5 total back in range", b.cell(0, 0, 4), 990001);
        for (int r = 0; r < 4; r++) b.remove(0, r);
        Club.enter(b, 0, -9999, 100, 4);
        Club.enter(b, 0, -99, 1, 4);
        Check.due("5 total -999999", b.cell(0, 4, 4), -999999);
        Club.enter(b, 0, -1, 1, 4);
        Check.due("5 total below", b.cell(0, 4, 4), B);
    }

    /** A reckoned column can be the very first one. */
    private static void promise05First() {
        ClubBase b = new ClubBase();
        b.addTable();
        b.addTable();
        b.addLink(1, 0, ClubBase.FOLLOWS);
        Check.due("5 first column", b.addReckoned(0, ClubBase.COUNT, 0, 99, 1), 0);
        Check.due("16 first column", b.order(0), 0);
        Check.due("5 second column", b.addReckoned(0, ClubBase.ADD, 0, 0, 0), 1);
        b.enter(0);
        Club.enter(b, 1, 0);
        Check.due("5 first cell", b.cell(0, 0, 0), 1);
        Check.due("5 second cell", b.cell(0, 0, 1), 2);
        Check.due("6 first column", b.reckonAnew(0, 0, ClubBase.ADD, 1, 1, 0), false);
        used("link of the first column", b, 1, 0);
    }

    private static void dropped(ClubBase b) {
        Club.all(b);
        b.addLink(0, 0, ClubBase.BLANKS);
        b.drop(0, 4);
        b.put(0, 0, 0, 10);
    }

    private static void promise06ReckonAnew() {
        ClubBase b = Club.filled();
        Check.due("6 another formula", b.reckonAnew(0, 2, ClubBase.ADD, 0, 0, 9), true);
        Check.due("6 another cell", b.cell(0, 0, 2), 2);
        Check.due("6 circle over others", b.reckonAnew(0, 2, ClubBase.TOTAL, 0, 3, 1), true);
        Check.due("6 circle", b.reckonAnew(1, 3, ClubBase.LOOK, 0, 2, 0), false);
        Check.reason("6 circle", b, ClubBase.CIRCLE, 1, -1, 3);
        Check.due("6 cell as it was", b.cell(1, 0, 3), 50);
        Check.due("6 order as it was", b.order(2), 2);
        Check.due("6 itself", b.reckonAnew(0, 2, ClubBase.TIMES, 2, 0, 0), false);
        Check.reason("6 itself", b, ClubBase.CIRCLE, 0, -1, 2);
        b.addRule(0, 3, ClubBase.AT_MOST, 1, 0);
        Check.due("6 breaks a rule", b.reckonAnew(0, 3, ClubBase.TIMES, 1, 1, 0), false);
        Check.reason("6 breaks a rule", b, ClubBase.RULE, 0, 0, 0);
        Check.due("6 count as it was", b.cell(0, 1, 3), 2);
        b.enter(2);
        Check.due("6 formula as it was", b.cell(0, 1, 3), 2);
        b.put(0, 1, 0, 9);
        Check.due("6 breaks it again", b.reckonAnew(0, 3, ClubBase.TIMES, 1, 1, 0), false);
        Check.due("6 the cell that was put", b.cell(0, 1, 0), 9);
        Check.wrong("6 table", Check.INDEX, Club::all, x -> x.reckonAnew(3, 0, 9, 0, 0, 0));
        Check.wrong("6 column", Check.INDEX, Club::all, x -> x.reckonAnew(0, 4, 9, 0, 0, 0));
        Check.wrong("6 number before kind", Check.INDEX, Club::all, x -> x.reckonAnew(0, 0, ClubBase.ADD, 0, 9, 0));
        Check.wrong("6 not reckoned", Check.ARGUMENT, Club::all, x -> x.reckonAnew(0, 0, ClubBase.ADD, 0, 0, 0));
        Check.wrong("6 formula", Check.ARGUMENT, Club::all, x -> x.reckonAnew(0, 2, 5, 0, 0, 0));
        Check.wrong("6 link", Check.ARGUMENT, Club::all, x -> x.reckonAnew(0, 2, ClubBase.TOTAL, 1, 1, 1));
        Check.wrong("6 dropped", Check.ARGUMENT, DesignTest::dropped, x -> x.reckonAnew(0, 2, ClubBase.ADD, 4, 0, 0));
    }

    private static void promise07Need() {
        ClubBase b = Club.filled();
        Check.due("7 refused", b.need(1, 1, true), false);
        Check.reason("7 refused", b, ClubBase.NEED, 1, 2, 1);
        Check.due("7 not needed", b.put(1, 0, 1, B), true);
        Check.due("7 refused again", b.need(1, 1, true), false);
        Check.reason("7 refused again", b, ClubBase.NEED, 1, 0, 1);
        Check.due("7 the cell that was put", b.cell(1, 0, 1), B);
        Check.due("7 needed", b.need(0, 0, true), true);
        Check.due("7 BLANK refused", b.put(0, 0, 0, B), false);
        Check.reason("7 BLANK refused", b, ClubBase.NEED, 0, 0, 0);
        Check.due("7 no more", b.need(0, 0, false), true);
        Check.due("7 BLANK", b.put(0, 0, 0, B), true);
        Check.due("7 a link", b.need(2, 0, true), true);
        Check.wrong("7 column", Check.INDEX, Club::all, x -> x.need(0, 4, true));
        Check.wrong("7 table", Check.INDEX, Club::all, x -> x.need(-1, 0, true));
        Check.wrong("7 reckoned", Check.ARGUMENT, Club::all, x -> x.need(0, 2, false));
        Check.wrong("7 dropped", Check.ARGUMENT, DesignTest::dropped, x -> x.need(0, 4, true));
    }

    private static void promise08Single() {
        ClubBase b = Club.filled();
        Check.due("8 refused", b.single(1, 0, true), false);
        Check.reason("8 refused", b, ClubBase.SINGLE, 1, 2, 0);
        Check.due("8 not single", b.put(1, 3, 0, 1), true);
        Check.due("8 refused again", b.single(1, 0, true), false);
        Check.due("8 the cell that was put", b.cell(1, 3, 0), 1);
        Check.due("8 single", b.single(1, 1, true), true);
        Check.due("8 the same above", b.put(1, 0, 1, 5), false);
        Check.reason("8 the same above", b, ClubBase.SINGLE, 1, 3, 1);
        Check.due("8 two BLANK", b.put(1, 0, 1, B), true);
        b.remove(1, 3);
        Check.due("8 the same as a removed one", b.put(1, 0, 1, 5), true);
        Check.due("8 no more", b.single(1, 1, false), true);
        Check.due("8 twice", b.put(1, 1, 1, 5), true);
        Check.wrong("8 column", Check.INDEX, Club::all, x -> x.single(0, -1, true));
        Check.wrong("8 reckoned", Check.ARGUMENT, Club::all, x -> x.single(1, 3, true));
        Check.wrong("8 dropped", Check.ARGUMENT, DesignTest::dropped, x -> x.single(0, 4, true));
    }

    private static void promise09WouldLose() {
        ClubBase b = Club.filled();
        Check.due("9 none", b.wouldLose(1, 1, 5, 30), 0);
        Check.due("9 below and above", b.wouldLose(1, 1, 6, 29), 2);
        Check.due("9 BLANK is not lost", b.wouldLose(1, 1, 99, 99), 3);
        b.remove(1, 3);
        Check.due("9 removed row", b.wouldLose(1, 1, 99, 99), 2);
        Check.due("9 nothing is changed", b.cell(1, 0, 1), 30);
        Check.wrong("9 column", Check.INDEX, Club::all, x -> x.wouldLose(1, 4, 9, 0));
        Check.wrong("9 link", Check.ARGUMENT, Club::all, x -> x.wouldLose(1, 0, 0, 9));
        Check.wrong("9 range", Check.ARGUMENT, Club::all, x -> x.wouldLose(1, 1, 9, 0));
        Check.wrong("9 above", Check.ARGUMENT, Club::all, x -> x.wouldLose(1, 1, 0, 10000));
        Check.wrong("9 dropped", Check.ARGUMENT, DesignTest::dropped, x -> x.wouldLose(0, 4, 0, 9));
    }

    private static void promise10Narrow() {
        ClubBase b = Club.filled();
        Check.due("10 narrower", b.narrow(1, 1, 6, 29), true);
        Check.due("10 above is BLANK", b.cell(1, 0, 1), B);
        Check.due("10 below is BLANK", b.cell(1, 3, 1), B);
        Check.due("10 in range", b.cell(1, 1, 1), 15);
        Check.due("10 reckoned anew", b.cell(0, 0, 2), 0);
        Check.due("10 new range", b.put(1, 1, 1, 30), false);
        Check.reason("10 new range", b, ClubBase.RANGE, 1, 1, 1);
        Check.due("10 wider", b.narrow(1, 1, -1, 200), true);
        Check.due("10 wider range", b.put(1, 1, 1, 200), true);
        b.need(0, 0, true);
        Check.due("10 refused", b.narrow(0, 0, 2, 9), false);
        Check.reason("10 refused", b, ClubBase.NEED, 0, 0, 0);
        Check.due("10 cell as it was", b.cell(0, 0, 0), 1);
        Check.due("10 least as it was", b.put(0, 0, 0, 0), true);
        Check.due("10 refused again", b.narrow(0, 0, 1, 5), false);
        Check.due("10 the cell that was put", b.cell(0, 0, 0), 0);
        Check.due("10 most as it was", b.put(0, 0, 0, 9), true);
        Check.due("10 above it", b.put(0, 0, 0, 10), false);
        Check.wrong("10 column", Check.INDEX, Club::all, x -> x.narrow(1, 4, 0, 9));
        Check.wrong("10 reckoned", Check.ARGUMENT, Club::all, x -> x.narrow(1, 3, 0, 9));
        Check.wrong("10 range", Check.ARGUMENT, Club::all, x -> x.narrow(1, 1, -10000, 9));
    }

    private static void promise11WouldLoseAll() {
        ClubBase b = Club.filled();
        Check.due("11 numbers", b.wouldLoseAll(1, 1), 3);
        Check.due("11 reckoned", b.wouldLoseAll(1, 3), 3);
        Check.due("11 totals", b.wouldLoseAll(0, 2), 3);
        b.remove(1, 3);
        Check.due("11 removed row", b.wouldLoseAll(1, 1), 2);
        b.drop(2, 1);
        Check.due("11 dropped", b.wouldLoseAll(2, 1), 0);
        Check.wrong("11 column", Check.INDEX, Club::all, x -> x.wouldLoseAll(1, 4));
        Check.wrong("11 table", Check.INDEX, Club::all, x -> x.wouldLoseAll(3, 0));
    }

    private static void used(String what, ClubBase b, int table, int column) {
        Check.due("12 " + what, b.drop(table, column), false);
        Check.reason("12 " + what, b, ClubBase.USED, table, -1, column);
    }

    private static void promise12Drop() {
        ClubBase b = Club.filled();
        used("link of TOTAL", b, 1, 0);
        used("cells of TOTAL", b, 1, 1);
        used("cells of LOOK", b, 0, 1);
        Check.due("12 the two of COUNT does not matter", b.drop(0, 2), true);
        used("link of COUNT", b, 1, 0);
        Check.due("12 cells that no TOTAL uses any more", b.drop(1, 1), true);
        Check.due("12 BLANK cells", b.cell(1, 0, 1), B);
        Check.due("12 columns keep their numbers", b.cell(1, 0, 2), B);
        Check.due("12 entering leaves it BLANK", Club.enter(b, 1, 0, 9, 1), 4);
        Check.due("12 BLANK cell", b.cell(1, 4, 1), B);
        Check.due("12 cell behind it", b.cell(1, 4, 2), 1);
        Check.due("12 order", b.order(1), 13);
        b.need(2, 1, true);
        Check.due("12 needed", b.drop(2, 1), true);
        Check.due("12 needed no more", Club.enter(b, 2), 1);
        int rule = b.addRule(0, 0, ClubBase.UNLIKE, 0, 1);
        Check.due("12 a rule of another table", b.drop(2, 0), true);
        used("rule", b, 0, 0);
        b.dropRule(rule);
        Check.due("12 dropped rule", b.drop(0, 0), true);
        promise12Questions();
        Check.wrong("12 column", Check.INDEX, Club::all, x -> x.drop(0, 4));
        Check.wrong("12 dropped", Check.ARGUMENT, DesignTest::dropped, x -> x.drop(0, 4));
    }

    private static void promise12Questions() {
        ClubBase b = Club.filled();
        b.ask(2, -1);
        b.ask(10, 0);
        Check.due("12 shown only", b.drop(2, 1), true);
        Check.due("12 shown BLANK", b.answer(0, 0, 1), B);
        used("join", b, 2, 0);
        b.reckonAnew(1, 3, ClubBase.ADD, 2, 2, 0);
        Check.due("12 joined only", b.drop(1, 3), true);
        b.condition(1, 0, 4, ClubBase.EMPTY, 0);
        used("condition on what comes from it", b, 1, 2);
        b.askGroups(0, 0, 0);
        used("key and value", b, 0, 0);
        b.askCross(0, 3, 3, 1);
        used("second key", b, 0, 3);
        used("value of a cross", b, 0, 1);
        b.ask(12, -1);
        b.condition(4, 0, 2, ClubBase.IS, 1);
        Check.due("12 nothing but totals", b.drop(0, 2), true);
    }

    private static void promise13SetRemoval() {
        ClubBase b = Club.filled();
        Check.due("13 before", b.setRemoval(1, 0, ClubBase.FOLLOWS), ClubBase.FORBIDS);
        Check.due("13 again", b.setRemoval(1, 0, ClubBase.BLANKS), ClubBase.FOLLOWS);
        Check.due("13 removes", b.remove(0, 0), true);
        Check.due("13 blanks", b.cell(1, 0, 0), B);
        Check.wrong("13 column", Check.INDEX, Club::all, x -> x.setRemoval(1, 4, 9));
        Check.wrong("13 no link", Check.ARGUMENT, Club::all, x -> x.setRemoval(1, 1, 0));
        Check.wrong("13 removal", Check.ARGUMENT, Club::all, x -> x.setRemoval(1, 0, 3));
        Check.wrong("13 dropped", Check.ARGUMENT, DesignTest::dropped, x -> x.setRemoval(0, 4, 0));
    }

    private static void promise14AddRule() {
        ClubBase b = Club.small();
        b.addNumber(0, -9999, 9999);
        Club.enter(b, 0, 3, 5, 100);
        Check.due("14 at most refused", b.addRule(0, 1, ClubBase.AT_MOST, 0, 1), -1);
        Check.reason("14 refused", b, ClubBase.RULE, 0, 0, 0);
        Check.due("14 at most", b.addRule(0, 1, ClubBase.AT_MOST, 0, 2), 0);
        Check.due("14 at most more", b.put(0, 0, 1, 6), false);
        Check.due("14 at most BLANK", b.put(0, 0, 0, B), true);
        b.put(0, 0, 0, 3);
        Check.due("14 alike refused", b.addRule(0, 1, ClubBase.ALIKE, 0, 3), -1);
        Check.due("14 alike", b.addRule(0, 1, ClubBase.ALIKE, 0, 2), 1);
        Check.due("14 not alike", b.put(0, 0, 1, 4), false);
        Check.reason("14 not alike", b, ClubBase.RULE, 0, 0, 1);
        Check.due("14 unlike refused", b.addRule(0, 2, ClubBase.UNLIKE, 1, 95), -1);
        Check.due("14 unlike", b.addRule(0, 2, ClubBase.UNLIKE, 1, 96), 2);
        Check.due("14 not unlike", b.put(0, 0, 2, 101), false);
        Check.due("14 unlike BLANK", b.put(0, 0, 2, B), true);
        Check.due("14 both refused", b.addRule(0, 2, ClubBase.BOTH, 1, 0), -1);
        b.put(0, 0, 2, 9);
        Check.due("14 both", b.addRule(0, 2, ClubBase.BOTH, 1, -9999), 3);
        Check.due("14 not both", b.put(0, 0, 1, B), false);
        Check.due("14 a row with both BLANK", Club.enter(b, 0, 3), 1);
        Check.due("14 reckoned", Club.filled().addRule(0, 2, ClubBase.AT_MOST, 1, 9999), 0);
        Check.wrong("14 table", Check.INDEX, Club::all, x -> x.addRule(3, 0, 9, 0, 0));
        Check.wrong("14 one", Check.INDEX, Club::all, x -> x.addRule(0, 4, 9, 0, 0));
        Check.wrong("14 other", Check.INDEX, Club::all, x -> x.addRule(0, 0, 9, 4, 0));
        Check.wrong("14 relation", Check.ARGUMENT, Club::all, x -> x.addRule(0, 0, 4, 0, 0));
        Check.wrong("14 more", Check.ARGUMENT, Club::all, x -> x.addRule(0, 0, 3, 0, -10000));
        Check.wrong("14 dropped other", Check.ARGUMENT, DesignTest::dropped, x -> x.addRule(0, 0, 0, 4, 0));
        Check.wrong("14 dropped one", Check.ARGUMENT, DesignTest::dropped, x -> x.addRule(0, 4, 0, 0, 0));
        Check.wrong("14 more before eight", Check.ARGUMENT, DesignTest::eightRules, x -> x.addRule(0, 0, 0, 0, 10000));
        Check.wrong("14 eight", Check.STATE, DesignTest::eightRules, x -> x.addRule(0, 0, 3, 0, 0));
    }

    private static void eightRules(ClubBase b) {
        Club.all(b);
        for (int rule = 1; rule < 8; rule++) b.addRule(0, 0, ClubBase.BOTH, 0, 0);
        b.dropRule(3);
    }

    private static void promise15DropRule() {
        ClubBase b = Club.small();
        b.addRule(0, 0, ClubBase.AT_MOST, 1, 0);
        b.addRule(0, 0, ClubBase.BOTH, 1, 0);
        Check.due("15 held", Club.enter(b, 0, 2, 1), -1);
        b.dropRule(0);
        Check.reason("15 the reason stays", b, ClubBase.RULE, 0, 0, 0);
        Check.due("15 dropped", Club.enter(b, 0, 2, 1), 0);
        Check.due("15 the other holds", Club.enter(b, 0, 2), -1);
        Check.reason("15 its number stays", b, ClubBase.RULE, 0, 1, 1);
        Check.due("15 no number is used again", b.addRule(0, 0, ClubBase.BOTH, 1, 0), 2);
        Check.wrong("15 dropped", Check.INDEX, DesignTest::eightRules, x -> x.dropRule(3));
        Check.wrong("15 none", Check.INDEX, Club::all, x -> x.dropRule(1));
        Check.wrong("15 below", Check.INDEX, Club::all, x -> x.dropRule(-1));
    }

    private static void promise16Order() {
        ClubBase b = Club.filled();
        Check.due("16 first", b.order(0), 2);
        Check.due("16 second", b.order(1), 3);
        Check.due("16 third", b.order(2), 13);
        b.reckonAnew(0, 2, ClubBase.TOTAL, 0, 3, 1);
        Check.due("16 waits", b.order(0), 3);
        Check.due("16 what it uses", b.order(1), 13);
        Check.due("16 comes behind", b.order(2), 2);
        b.addReckoned(1, ClubBase.LOOK, 0, 2, 0);
        b.addReckoned(0, ClubBase.ADD, 0, 0, 0);
        Check.due("16 lowest table first", b.order(1), 4);
        Check.due("16 last", b.order(4), 14);
        Check.wrong("16 too many", Check.INDEX, Club::all, x -> x.order(3));
        Check.wrong("16 below", Check.INDEX, Club::all, x -> x.order(-1));
    }

    private static void promise17to20Reason() {
        ClubBase b = Club.filled();
        b.put(0, 1, 0, 77);
        Check.reason("17 range", b, ClubBase.RANGE, 0, 1, 0);
        b.openForm(0, 0);
        b.type(0, 5);
        b.addTable();
        b.choice(1, 0, 0, 0);
        b.setRemoval(1, 0, ClubBase.BLANKS);
        b.ask(0, -1);
        Check.reason("17 calls that cannot be refused", b, ClubBase.RANGE, 0, 1, 0);
        b.put(0, 1, 0, 7);
        Check.reason("17 not refused", b, 0, -1, -1, -1);
        promise17Order();
    }

    /** The first that is broken: tables, rows, columns with RANGE, NEED, SINGLE, LINK, then rules. */
    private static void promise17Order() {
        ClubBase b = new ClubBase();
        b.addTable();
        b.addNumber(0, 0, 9);
        b.addLink(0, 0, ClubBase.FORBIDS);
        b.addReckoned(0, ClubBase.ADD, 0, 1, 0);
        b.addRule(0, 0, ClubBase.AT_MOST, 2, -1);
        b.addRule(0, 2, ClubBase.UNLIKE, 2, 0);
        Check.reason("17 no row breaks it", b, 0, -1, -1, -1);
        b.dropRule(1);
        b.single(0, 0, true);
        b.need(0, 1, true);
        Check.due("17 rule 0", Club.enter(b, 0, 5, 0), -1);
        Check.reason("18 rule 0", b, ClubBase.RULE, 0, 0, 0);
        Check.due("17 blank need", Club.enter(b, 0, 10), -1);
        Check.reason("18 range before need", b, ClubBase.RANGE, 0, 0, 0);
        Check.due("17 link before rule", Club.enter(b, 0, 5, -3), -1);
        Check.reason("18 link before rule", b, ClubBase.LINK, 0, 0, 1);
        b.dropRule(0);
        Check.due("17 good", Club.enter(b, 0, 5, 0), 0);
        Check.due("17 single before need", Club.enter(b, 0, 5), -1);
        Check.reason("19 single before need", b, ClubBase.SINGLE, 0, 1, 0);
        Check.due("17 need", Club.enter(b, 0, 6), -1);
        Check.reason("20 need", b, ClubBase.NEED, 0, 1, 1);
        b.single(0, 1, true);
        Check.due("17 single link", Club.enter(b, 0, 6, 0), -1);
        Check.reason("20 single link", b, ClubBase.SINGLE, 0, 1, 1);
    }

    private static void promise21Broken() {
        ClubBase b = Club.filled();
        b.addRule(0, 0, ClubBase.AT_MOST, 1, 100);
        b.put(0, 0, 0, 77);
        Check.due("21 nothing", b.broken(), 0);
        Check.reason("21 the reason stays", b, ClubBase.RANGE, 0, 0, 0);
        b.narrow(0, 0, 2, 2);
        b.remove(2, 0);
        b.drop(2, 1);
        Check.due("21 still nothing", b.broken(), 0);
    }

    public static void main(String[] args) {
        promise01NewObject();
        promise02AddTable();
        promise03AddNumber();
        promise04AddLink();
        promise05AddReckoned();
        promise06ReckonAnew();
        promise07Need();
        promise08Single();
        promise09WouldLose();
        promise10Narrow();
        promise11WouldLoseAll();
        promise12Drop();
        promise13SetRemoval();
        promise14AddRule();
        promise15DropRule();
        promise16Order();
        promise17to20Reason();
        promise21Broken();
        Check.end("DesignTest");
    }
}
