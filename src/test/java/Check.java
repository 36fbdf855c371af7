/** What the tests share: comparing answers, and calls that have to throw and to change nothing. */
final class Check {
    static final Class<IndexOutOfBoundsException> INDEX = IndexOutOfBoundsException.class;
    static final Class<IllegalArgumentException> ARGUMENT = IllegalArgumentException.class;
    static final Class<IllegalStateException> STATE = IllegalStateException.class;

    private static int wrong = 0;
    private static int made = 0;

    private Check() {
    }

    /** Calls on a database. */
    interface Calls {
        void on(ClubBase b);
    }

    static void due(String what, long got, long want) {
        made++;
        if (got != want) {
            wrong++;
            System.out.println(what + " answered " + got + ", due is " + want);
        }
    }

    static void due(String what, boolean got, boolean want) {
        due(what, got ? 1 : 0, want ? 1 : 0);
    }

    /** Compares the reason and where it is. */
    static void reason(String what, ClubBase b, int reason, int table, int row, int column) {
        due(what + ": reason", b.reason(), reason);
        due(what + ": whereTable", b.whereTable(), table);
        due(what + ": whereRow", b.whereRow(), row);
        due(what + ": whereColumn", b.whereColumn(), column);
    }

    /** The call has to throw just this, and the database to look like a twin that was not called. */
    static void wrong(String what, Class<? extends RuntimeException> due, Calls setup, Calls call) {
        ClubBase called = new ClubBase();
        setup.on(called);
        String got = "nothing";
        try {
            call.on(called);
        } catch (RuntimeException e) {
            got = e.getClass().getName();
        }
        ClubBase twin = new ClubBase();
        setup.on(twin);
        made++;
        if (!got.equals(due.getName())) {
            wrong++;
            System.out.println(what + " throws " + got + ", due is " + due.getName());
        } else if (!picture(called).equals(picture(twin))) {
            wrong++;
            System.out.println(what + " throws, but changes something");
        }
    }

    static void end(String test) {
        System.out.println(test + ": " + (wrong == 0 ? made + " answers are as due" : wrong + " answers are not as due"));
        if (wrong != 0) System.exit(1);
    }

    /** All that can be seen of a database; looking spoils it. */
    private static String picture(ClubBase b) {
        StringBuilder s = new StringBuilder();
        s.append(b.reason()).append(' ').append(b.whereTable()).append(' ').append(b.whereRow()).append(' ').append(b.whereColumn());
        s.append(" undoable ").append(b.undoable()).append(" broken ").append(b.broken());
        for (int t = 0; t < 4; t++) pictureTable(b, t, s);
        for (int q = 0; q < 8; q++) pictureQuestion(b, q, s);
        s.append("\norder");
        for (int place = 0; place < 24; place++) {
            int at = place;
            if (!note(s, () -> b.order(at))) break;
        }
        s.append("\ninside");
        note(s, () -> b.enterInside(1, 0));
        s.append("\ndraft");
        for (int c = 0; c < 6; c++) s.append(' ').append(b.type(c, ClubBase.BLANK));
        s.append("\nacts");
        for (int a = 0; a < 4; a++) {
            int act = a;
            note(s, () -> b.stepAdd(act, 0));
        }
        note(s, b::addAct);
        s.append("\nrules");
        note(s, () -> b.addRule(0, 0, ClubBase.BOTH, 0, 0));
        note(s, () -> b.askGroups(0, 0, 0));
        note(s, b::addTable);
        return s.toString();
    }

    private interface Answer {
        int get();
    }

    private static boolean note(StringBuilder s, Answer answer) {
        try {
            s.append(' ').append(answer.get());
            return true;
        } catch (RuntimeException e) {
            s.append(' ').append(e.getClass().getName());
            return false;
        }
    }

    private static void pictureTable(ClubBase b, int t, StringBuilder s) {
        s.append("\ntable ").append(t);
        if (!note(s, () -> b.rows(t))) return;
        for (int c = 0; c < 6; c++) {
            int column = c;
            if (!note(s, () -> b.wouldLoseAll(t, column))) break;
            note(s, () -> b.wouldLose(t, column, -9999, 9998));
            for (int row = 0; row < 6; row++) {
                int at = row;
                note(s, () -> b.cell(t, at, column));
            }
        }
    }

    private static void pictureQuestion(ClubBase b, int q, StringBuilder s) {
        s.append("\nquestion ").append(q);
        if (!note(s, () -> b.columns(q))) return;
        int answers = b.answers(q);
        int columns = b.columns(q);
        s.append(" answers ").append(answers);
        for (int a = 0; a < answers; a++) {
            for (int c = a % 2; c < columns; c += 2) s.append(' ').append(b.answer(q, a, c));
        }
        note(s, () -> b.condition(q, 0, 0, 0, 0));
    }
}
