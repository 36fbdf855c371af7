/** Promises 33 to 42: questions and their answers. */
public final class QuestionTest {
    private static final int B = ClubBase.BLANK;

    private static ClubBase asked() {
        ClubBase b = Club.filled();
        Club.questions(b);
        return b;
    }

    private static void answers(String what, ClubBase b, int question, int[]... due) {
        Check.due(what + ": answers", b.answers(question), due.length);
        for (int a = 0; a < due.length && a < b.answers(question); a++) {
            for (int c = 0; c < due[a].length; c++) {
                Check.due(what + ": answer " + a + ", " + c, b.answer(question, a, c), due[a][c]);
            }
        }
    }

    private static int[] row(int... cells) {
        return cells;
    }

    private static void promise33Ask() {
        ClubBase b = Club.filled();
        Check.due("33 a table", b.ask(1, -1), 0);
        answers("33 a table", b, 0, row(0, 30, B, 50), row(1, 15, 0, 20), row(1, B, 1, 20), row(B, 5, B, B));
        Check.due("33 a join", b.ask(1, 0), 1);
        answers("33 a join", b, 1, row(0, 30, B, 50, 1, 50, 30, 1), row(1, 15, 0, 20, 2, 20, 15, 2), row(1, B, 1, 20, 2, 20, 15, 2));
        Check.due("33 over a question", b.ask(11, 2), 2);
        answers("33 over a question", b, 2, row(1, 15, 0, 20, 2, 20, 15, 2, 0, 30, B, 50), row(1, B, 1, 20, 2, 20, 15, 2, 1, 15, 0, 20));
        Check.due("33 a link that came by a join", b.ask(2, 0), 3);
        Check.due("33 joined on it", b.ask(13, 2), 4);
        answers("33 joined on it", b, 4, row(1, 7, 1, 15, 0, 20, 2, 20, 15, 2));
        b.addNumber(1, 0, 9);
        Check.due("33 columns as they were", b.columns(0), 4);
        Check.due("33 columns as they are", b.columns(b.ask(1, 2)), 10);
        b.remove(1, 1);
        answers("33 found anew", b, 0, row(0, 30, B, 50), row(1, B, B, 20), row(B, 5, B, B));
        Check.wrong("33 table", Check.INDEX, Club::all, x -> x.ask(3, -1));
        Check.wrong("33 source below", Check.INDEX, Club::all, x -> x.ask(-1, -1));
        Check.wrong("33 question", Check.INDEX, Club::all, x -> x.ask(14, -1));
        Check.wrong("33 column", Check.INDEX, Club::all, x -> x.ask(1, 4));
        Check.wrong("33 column below", Check.INDEX, Club::all, x -> x.ask(1, -2));
        Check.wrong("33 column of a cross", Check.INDEX, Club::all, x -> x.ask(13, 9));
        Check.wrong("33 cross", Check.ARGUMENT, Club::all, x -> x.ask(13, -1));
        Check.wrong("33 no link", Check.ARGUMENT, Club::all, x -> x.ask(1, 1));
        Check.wrong("33 reckoned", Check.ARGUMENT, Club::all, x -> x.ask(1, 3));
        Check.wrong("33 of groups", Check.ARGUMENT, Club::all, x -> x.ask(12, 0));
        Check.wrong("33 of a question of groups", Check.ARGUMENT, x -> { Club.all(x); x.ask(12, -1); }, x -> x.ask(14, 0));
        Check.wrong("33 dropped", Check.ARGUMENT, x -> { Club.design(x); x.addLink(2, 0, 0); x.ask(2, -1); x.drop(2, 2); }, x -> x.ask(10, 2));
        Check.wrong("33 eight", Check.STATE, QuestionTest::eight, x -> x.ask(1, 0));
        Check.wrong("33 link before eight", Check.ARGUMENT, QuestionTest::eight, x -> x.ask(1, 1));
    }

    private static void eight(ClubBase b) {
        Club.all(b);
        for (int q = 4; q < 8; q++) b.ask(2, -1);
    }

    private static void promise34Condition() {
        ClubBase b = Club.filled();
        b.ask(1, -1);
        Check.due("34 least", b.condition(0, 1, 1, ClubBase.LEAST, 15), 1);
        answers("34 least", b, 0, row(0, 30), row(1, 15));
        Check.due("34 both in a line", b.condition(0, 1, 0, ClubBase.IS, 1), 2);
        answers("34 both in a line", b, 0, row(1, 15));
        Check.due("34 another line", b.condition(0, 0, 1, ClubBase.MOST, 5), 3);
        answers("34 another line", b, 0, row(1, 15), row(B, 5));
        Check.due("34 empty", b.condition(0, 2, 1, ClubBase.EMPTY, 999999), 4);
        answers("34 empty", b, 0, row(1, 15), row(1, B), row(B, 5));
        b.condition(0, 2, 2, ClubBase.IS, 1);
        b.condition(0, 2, 3, ClubBase.LEAST, -999999);
        answers("34 six", b, 0, row(1, 15), row(1, B), row(B, 5));
        b.ask(1, 0);
        b.ask(11, -1);
        b.condition(1, 2, 5, ClubBase.MOST, 49);
        answers("34 on a joined column, over a question", b, 2, row(1, 15), row(1, B));
        b.ask(1, -1);
        b.condition(3, 0, 1, ClubBase.LEAST, -999999);
        b.condition(3, 1, 1, ClubBase.MOST, 999999);
        answers("34 BLANK is neither", b, 3, row(0, 30), row(1, 15), row(B, 5));
        Check.wrong("34 question", Check.INDEX, Club::all, x -> x.condition(4, 9, 0, 0, 0));
        Check.wrong("34 column", Check.INDEX, Club::all, x -> x.condition(0, 3, 4, 0, 0));
        Check.wrong("34 column of groups", Check.INDEX, Club::all, x -> x.condition(2, 0, 5, 0, 0));
        Check.wrong("34 groups", Check.ARGUMENT, Club::all, x -> x.condition(2, 0, 0, 0, 0));
        Check.wrong("34 cross", Check.ARGUMENT, Club::all, x -> x.condition(3, 0, 0, 0, 0));
        Check.wrong("34 line", Check.ARGUMENT, Club::all, x -> x.condition(0, 3, 0, 0, 0));
        Check.wrong("34 line below", Check.ARGUMENT, Club::all, x -> x.condition(0, -1, 0, 0, 0));
        Check.wrong("34 relation", Check.ARGUMENT, Club::all, x -> x.condition(0, 0, 0, 4, 0));
        Check.wrong("34 value", Check.ARGUMENT, Club::all, x -> x.condition(0, 0, 0, 0, 1000000));
        Check.wrong("34 BLANK for EMPTY", Check.ARGUMENT, Club::all, x -> x.condition(0, 0, 0, ClubBase.EMPTY, B));
        Check.wrong("34 six", Check.STATE, QuestionTest::six, x -> x.condition(0, 0, 0, 0, 0));
        Check.wrong("34 value before six", Check.ARGUMENT, QuestionTest::six, x -> x.condition(0, 0, 0, 0, B));
    }

    private static void six(ClubBase b) {
        Club.all(b);
        for (int n = 0; n < 6; n++) b.condition(0, n / 2, 1, ClubBase.LEAST, n);
    }

    private static void promise35AskGroups() {
        ClubBase b = Club.filled();
        Check.due("35 of a table", b.askGroups(1, 0, 1), 0);
        answers("35 of a table", b, 0, row(B, 1, 5, 5, 5), row(0, 1, 30, 30, 30), row(1, 2, 15, 15, 15));
        b.put(1, 1, 1, B);
        b.put(1, 0, 0, B);
        answers("35 anew", b, 0, row(B, 2, 35, 5, 30), row(1, 2, 0, B, B));
        Check.due("35 of groups", b.askGroups(10, 1, 2), 1);
        answers("35 of groups", b, 1, row(2, 2, 35, 0, 35));
        Check.due("35 of a question", b.ask(11, -1), 2);
        b.condition(2, 0, 4, ClubBase.LEAST, 30);
        answers("35 a question of groups", b, 2, row(2, 2, 35, 0, 35));
        promise35Limits();
        Check.wrong("35 table", Check.INDEX, Club::all, x -> x.askGroups(3, 0, 0));
        Check.wrong("35 question", Check.INDEX, Club::all, x -> x.askGroups(14, 0, 0));
        Check.wrong("35 key", Check.INDEX, Club::all, x -> x.askGroups(1, 4, 0));
        Check.wrong("35 value", Check.INDEX, Club::all, x -> x.askGroups(10, 0, 4));
        Check.wrong("35 cross", Check.ARGUMENT, Club::all, x -> x.askGroups(13, 0, 0));
        Check.wrong("35 column of a cross", Check.INDEX, Club::all, x -> x.askGroups(13, 0, 9));
        Check.wrong("35 eight", Check.STATE, QuestionTest::eight, x -> x.askGroups(1, 0, 0));
        Check.wrong("35 cross before eight", Check.ARGUMENT, QuestionTest::eight, x -> x.askGroups(13, 0, 0));
    }

    private static void promise35Limits() {
        ClubBase b = new ClubBase();
        b.addTable();
        b.addNumber(0, -9999, 9999);
        b.addNumber(0, -9999, 9999);
        b.addReckoned(0, ClubBase.TIMES, 0, 1, 0);
        b.addNumber(0, -9999, 9999);
        Club.enter(b, 0, 9999, 100, B, -7);
        Club.enter(b, 0, 9, 11, B, 3);
        b.ask(0, -1);
        b.addNumber(0, 0, 0);
        b.askGroups(0, 4, 2);
        b.askCross(0, 4, 4, 2);
        answers("35 999999", b, 1, row(B, 2, 999999, 99, 999900));
        answers("36 999999", b, 2, row(B, 999999));
        b.put(0, 1, 1, 12);
        answers("35 above", b, 1, row(B, 2, B, 108, 999900));
        answers("36 above", b, 2, row(B, B));
        b.askGroups(0, 3, 3);
        answers("35 rising", b, 3, row(-7, 1, -7, -7, -7), row(3, 1, 3, 3, 3));
    }

    private static void promise36AskCross() {
        ClubBase b = asked();
        Check.due("36 columns", b.columns(3), 4);
        answers("36 sums", b, 3, row(0, B, B, 30), row(1, 0, 15, B));
        Check.due("36 of a table", b.askCross(1, 0, 2, 1), 4);
        answers("36 of a table", b, 4, row(B, 5, B, B), row(0, 30, B, B), row(1, B, 15, 0));
        Check.due("36 of groups", b.askCross(12, 1, 0, 2), 5);
        answers("36 of groups", b, 5, row(1, 30, B), row(2, B, 15));
        for (int r = 0; r < 4; r++) b.remove(1, r);
        Check.due("36 no answers", b.answers(4), 0);
        Check.due("36 one column", b.columns(4), 1);
        promise36Widest();
        Check.wrong("36 table", Check.INDEX, Club::all, x -> x.askCross(3, 0, 0, 0));
        Check.wrong("36 question", Check.INDEX, Club::all, x -> x.askCross(14, 0, 0, 0));
        Check.wrong("36 first", Check.INDEX, Club::all, x -> x.askCross(1, 4, 0, 0));
        Check.wrong("36 second", Check.INDEX, Club::all, x -> x.askCross(1, 0, -1, 0));
        Check.wrong("36 value", Check.INDEX, Club::all, x -> x.askCross(1, 0, 0, 4));
        Check.wrong("36 cross", Check.ARGUMENT, Club::all, x -> x.askCross(13, 0, 0, 0));
        Check.wrong("36 eight", Check.STATE, QuestionTest::eight, x -> x.askCross(1, 0, 0, 0));
    }

    /** Thirty rows with other keys each, the middle ones last. */
    private static void promise36Widest() {
        ClubBase b = new ClubBase();
        b.addTable();
        b.addNumber(0, -9999, 9999);
        for (int r = 0; r < 15; r++) {
            Club.enter(b, 0, r);
            Club.enter(b, 0, 29 - r);
        }
        b.askCross(0, 0, 0, 0);
        b.askGroups(0, 0, 0);
        Check.due("36 thirty", b.answers(0), 30);
        Check.due("36 thirty-one", b.columns(0), 31);
        for (int k = 0; k < 30; k += 1) {
            Check.due("36 on the diagonal " + k, b.answer(0, k, k + 1), k);
            Check.due("36 beside it " + k, b.answer(0, k, 30 - k), 29 - k == k ? k : B);
            Check.due("36 first " + k, b.answer(0, k, 0), k);
            Check.due("40 second " + k, b.keyOf(0, k + 1), k);
            Check.due("35 group " + k, b.answer(1, k, 4), k);
        }
    }

    private static void promise37Answers() {
        ClubBase b = asked();
        Check.due("37 plain", b.answers(0), 4);
        Check.due("37 join", b.answers(1), 3);
        Check.due("37 groups", b.answers(2), 2);
        Check.due("37 cross", b.answers(3), 2);
        b.put(1, 3, 0, 2);
        Check.due("37 anew", b.answers(2), 3);
        Check.wrong("37 question", Check.INDEX, Club::all, x -> x.answers(4));
        Check.wrong("37 below", Check.INDEX, Club::all, x -> x.answers(-1));
    }

    private static void promise38Columns() {
        ClubBase b = asked();
        Check.due("38 plain", b.columns(0), 4);
        Check.due("38 join", b.columns(1), 8);
        Check.due("38 groups", b.columns(2), 5);
        Check.due("38 cross", b.columns(3), 4);
        b.put(1, 2, 1, 15);
        Check.due("38 cross anew", b.columns(3), 3);
        Check.due("38 no columns", b.columns(b.ask(b.addTable(), -1)), 0);
        Check.wrong("38 question", Check.INDEX, Club::all, x -> x.columns(4));
        Check.wrong("38 below", Check.INDEX, Club::all, x -> x.columns(-1));
    }

    private static void promise39Answer() {
        ClubBase b = asked();
        b.remove(1, 0);
        Check.due("39 first", b.answer(0, 0, 1), 15);
        Check.due("39 last", b.answer(0, 2, 1), 5);
        Check.due("39 BLANK", b.answer(0, 1, 1), B);
        Check.wrong("39 question", Check.INDEX, Club::all, x -> x.answer(4, 0, 0));
        Check.wrong("39 answer", Check.INDEX, Club::all, x -> x.answer(0, 4, 0));
        Check.wrong("39 answer below", Check.INDEX, Club::all, x -> x.answer(0, -1, 0));
        Check.wrong("39 column", Check.INDEX, Club::all, x -> x.answer(0, 0, 4));
        Check.wrong("39 column below", Check.INDEX, Club::all, x -> x.answer(0, 0, -1));
        Check.wrong("39 column of a cross", Check.INDEX, Club::all, x -> x.answer(3, 0, 4));
    }

    private static void promise40KeyOf() {
        ClubBase b = asked();
        Check.due("40 BLANK first", b.keyOf(3, 1), B);
        Check.due("40 rising", b.keyOf(3, 2), 15);
        Check.due("40 last", b.keyOf(3, 3), 30);
        Check.wrong("40 question", Check.INDEX, Club::all, x -> x.keyOf(4, 1));
        Check.wrong("40 column", Check.INDEX, Club::all, x -> x.keyOf(3, 9));
        Check.wrong("40 column 0", Check.INDEX, Club::all, x -> x.keyOf(3, 0));
        Check.wrong("40 column 0 of groups", Check.INDEX, Club::all, x -> x.keyOf(2, 0));
        Check.wrong("40 column of groups", Check.INDEX, Club::all, x -> x.keyOf(2, 5));
        Check.wrong("40 groups", Check.ARGUMENT, Club::all, x -> x.keyOf(2, 4));
        Check.wrong("40 plain", Check.ARGUMENT, Club::all, x -> x.keyOf(0, 1));
    }

    private static void promise41Target() {
        ClubBase b = asked();
        b.remove(1, 0);
        Check.due("41 table, row, column", b.target(0, 2, 1), 1031);
        Check.due("41 joined", b.target(1, 0, 5), 11);
        Check.due("41 itself", b.target(1, 1, 0), 1020);
        Check.due("41 reckoned", b.target(1, 0, 3), -1);
        Check.due("41 joined reckoned", b.target(1, 0, 6), -1);
        Check.due("41 groups", b.target(2, 0, 0), -1);
        Check.due("41 cross", b.target(3, 0, 0), -1);
        b.ask(11, 2);
        Check.due("41 over a question", b.target(4, 0, 5), 11);
        Check.due("41 joined over a question", b.target(4, 0, 9), 1011);
        b.ask(12, -1);
        Check.due("41 over groups", b.target(5, 0, 0), -1);
        b.ask(2, -1);
        Check.due("41 there", b.answers(6), 1);
        b.drop(2, 1);
        Check.due("41 dropped", b.target(6, 0, 1), -1);
        Check.wrong("41 question", Check.INDEX, Club::all, x -> x.target(4, 0, 0));
        Check.wrong("41 answer", Check.INDEX, Club::all, x -> x.target(0, 4, 0));
        Check.wrong("41 column", Check.INDEX, Club::all, x -> x.target(0, 0, 4));
    }

    private static void promise42Write() {
        ClubBase b = asked();
        b.condition(1, 0, 4, ClubBase.IS, 2);
        Check.due("42 joined", b.write(1, 1, 5, 25), true);
        Check.due("42 written", b.cell(0, 1, 1), 25);
        Check.due("42 in both answers", b.answer(1, 0, 5), 25);
        Check.due("42 refused", b.write(1, 0, 1, 101), false);
        Check.reason("42 refused", b, ClubBase.RANGE, 1, 1, 1);
        Check.due("42 link", b.write(1, 0, 0, 9), false);
        Check.reason("42 link", b, ClubBase.LINK, 1, 1, 0);
        Check.due("42 reckoned", b.write(1, 0, 3, 1), false);
        Check.reason("42 reckoned", b, ClubBase.UNWRITABLE, -1, -1, -1);
        Check.due("42 BLANK", b.write(1, 0, 1, B), true);
        Check.reason("42 not refused", b, 0, -1, -1, -1);
        Check.due("42 groups", b.write(2, 0, 2, 1), false);
        Check.reason("42 groups", b, ClubBase.UNWRITABLE, -1, -1, -1);
        Check.due("42 cross", b.write(3, 0, 1, 1), false);
        Check.due("42 out of its question", b.write(1, 0, 4, 3), true);
        Check.due("42 no answers", b.answers(1), 0);
        Check.wrong("42 question", Check.INDEX, Club::all, x -> x.write(4, 0, 0, 10000));
        Check.wrong("42 answer", Check.INDEX, Club::all, x -> x.write(0, 4, 0, 10000));
        Check.wrong("42 column", Check.INDEX, Club::all, x -> x.write(0, 0, 4, 10000));
        Check.wrong("42 value", Check.ARGUMENT, Club::all, x -> x.write(0, 0, 0, 10000));
        Check.wrong("42 value before UNWRITABLE", Check.ARGUMENT, Club::all, x -> x.write(2, 0, 0, -10000));
    }

    /** Eight questions that join, one over the other. */
    private static void promise42Deepest() {
        ClubBase b = new ClubBase();
        b.addTable();
        b.addLink(0, 0, ClubBase.BLANKS);
        for (int c = 1; c < 6; c++) b.addNumber(0, 0, 99);
        b.enter(0);
        for (int r = 1; r < 12; r++) Club.enter(b, 0, r - 1, r);
        b.ask(0, 0);
        for (int q = 1; q < 8; q++) b.ask(9 + q, 6 * q);
        Check.due("38 widest", b.columns(7), 54);
        Check.due("37 deepest", b.answers(7), 4);
        for (int part = 0; part < 9; part++) {
            Check.due("39 deepest " + part, b.answer(7, 3, 6 * part + 1), 11 - part);
            Check.due("41 deepest " + part, b.target(7, 3, 6 * part + 5), 10 * (11 - part) + 5);
            Check.due("42 deepest " + part, b.write(7, 3, 6 * part + 5, 50 + part), true);
            Check.due("42 written " + part, b.cell(0, 11 - part, 5), 50 + part);
        }
    }

    public static void main(String[] args) {
        promise33Ask();
        promise34Condition();
        promise35AskGroups();
        promise36AskCross();
        promise37Answers();
        promise38Columns();
        promise39Answer();
        promise40KeyOf();
        promise41Target();
        promise42Write();
        promise42Deepest();
        Check.end("QuestionTest");
    }
}
