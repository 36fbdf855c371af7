import java.lang.reflect.InvocationTargetException;
import java.lang.reflect.Method;
import java.lang.reflect.Modifier;
import java.util.Arrays;
import java.util.Comparator;

/** What the tests share: comparing answers, and calls that throw or are refused and have to change nothing. */
final class Check {
    static final Class<IndexOutOfBoundsException> INDEX = IndexOutOfBoundsException.class;
    static final Class<IllegalArgumentException> ARGUMENT = IllegalArgumentException.class;
    static final Class<IllegalStateException> STATE = IllegalStateException.class;

    private static int wrong = 0;
    private static int made = 0;

    private Check() {
    }

    /** Calls on a database. */
    interface Calls {
        void on(ClubBase b);
    }

    /** A call on a database with one argument that is tried with several numbers. */
    interface CallsWith {
        void on(ClubBase b, int number);
    }

    /** A call that tells whether it is not refused. */
    interface Change {
        boolean on(ClubBase b);
    }

    /** Runs each static method of a test that takes nothing but its main; none depends on another. */
    static void methods(Class<?> test) {
        Method[] all = test.getDeclaredMethods();
        Arrays.sort(all, Comparator.comparing(Method::getName));
        for (Method m : all) {
            if (!Modifier.isStatic(m.getModifiers()) || m.isSynthetic() || m.getParameterCount() > 0 || m.getReturnType() != void.class) continue;
            try {
                m.invoke(null);
            } catch (InvocationTargetException e) {
                wrong++;
                System.out.println(m.getName() + " ends with " + e.getCause());
            } catch (IllegalAccessException e) {
                wrong++;
                System.out.println(m.getName() + " cannot be run");
            }
        }
        end(test.getName());
    }

    static void due(String what, long got, long want) {
        made++;
        if (got != want) {
            wrong++;
            System.out.println(what + " answered " + got + ", due is " + want);
        }
    }

    static void due(String what, boolean got, boolean want) {
        due(what, got ? 1 : 0, want ? 1 : 0);
    }

    /** Compares the reason and where it is. */
    static void reason(String what, ClubBase b, int reason, int table, int row, int column) {
        due(what + ": reason", b.reason(), reason);
        due(what + ": whereTable", b.whereTable(), table);
        due(what + ": whereRow", b.whereRow(), row);
        due(what + ": whereColumn", b.whereColumn(), column);
    }

    private static String thrownBy(ClubBase b, Calls call) {
        try {
            call.on(b);
        } catch (RuntimeException e) {
            return e.getClass().getName();
        }
        return "nothing";
    }

    /** The call has to throw just this, and the database to look like a twin that was not called. */
    static void wrong(String what, Class<? extends RuntimeException> due, Calls setup, Calls call) {
        ClubBase called = new ClubBase();
        setup.on(called);
        String got = thrownBy(called, call);
        ClubBase twin = new ClubBase();
        setup.on(twin);
        made++;
        if (!got.equals(due.getName())) {
            wrong++;
            System.out.println(what + " throws " + got + ", due is " + due.getName());
        } else if (!(reasonOf(called) + picture(called)).equals(reasonOf(twin) + picture(twin))) {
            wrong++;
            System.out.println(what + " throws, but changes something");
        }
    }

    /** Each of the numbers has to let the call throw just this. */
    static void wrongs(String what, Class<? extends RuntimeException> due, Calls setup, CallsWith call, int... numbers) {
        for (int number : numbers) wrong(what + " with " + number, due, setup, x -> call.on(x, number));
    }

    /** None of the numbers lets the call throw. */
    static void fine(String what, Calls setup, CallsWith call, int... numbers) {
        for (int number : numbers) {
            ClubBase b = new ClubBase();
            setup.on(b);
            String got = thrownBy(b, x -> call.on(x, number));
            made++;
            if (!got.equals("nothing")) {
                wrong++;
                System.out.println(what + " with " + number + " throws " + got);
            }
        }
    }

    /** The call has to throw just this, on a database that is used further on. */
    static void thrown(String what, Class<? extends RuntimeException> due, ClubBase b, Calls call) {
        String got = thrownBy(b, call);
        made++;
        if (!got.equals(due.getName())) {
            wrong++;
            System.out.println(what + " throws " + got + ", due is " + due.getName());
        }
    }

    /** The call has to be refused with this reason, and the database to look, but for that, like a twin that was not called. */
    static void refused(String what, Calls setup, Change call, int reason, int table, int row, int column) {
        ClubBase called = new ClubBase();
        setup.on(called);
        due(what, call.on(called), false);
        reason(what, called, reason, table, row, column);
        ClubBase twin = new ClubBase();
        setup.on(twin);
        made++;
        if (!picture(called).equals(picture(twin))) {
            wrong++;
            System.out.println(what + " is refused, but changes something");
        }
    }

    static void end(String test) {
        System.out.println(test + ": " + (wrong == 0 ? made + " answers are as due" : wrong + " answers are not as due"));
        if (wrong != 0) System.exit(1);
    }

    private static String reasonOf(ClubBase b) {
        return b.reason() + " " + b.whereTable() + " " + b.whereRow() + " " + b.whereColumn() + " ";
    }

    /** All that can be seen of a database but the reason; looking spoils it. */
    private static String picture(ClubBase b) {
        StringBuilder s = new StringBuilder();
        s.append("undoable ").append(b.undoable()).append(" broken ").append(b.broken());
        for (int t = 0; t < 4; t++) pictureTable(b, t, s);
        for (int q = 0; q < 8; q++) pictureQuestion(b, q, s);
        s.append("\norder");
        for (int place = 0; place < 24; place++) {
            int at = place;
            if (!note(s, () -> b.order(at))) break;
        }
        s.append("\ninside");
        note(s, () -> b.enterInside(1, 0));
        s.append("\ndraft");
        for (int c = 0; c < 6; c++) s.append(' ').append(b.type(c, ClubBase.BLANK));
        s.append("\nacts");
        for (int a = 0; a < 4; a++) {
            int act = a;
            note(s, () -> b.stepAdd(act, 0));
        }
        note(s, b::addAct);
        for (int t = 0; t < 4; t++) pictureBounds(b, t, s);
        s.append("\nrules");
        note(s, () -> b.addRule(0, 0, ClubBase.BOTH, 0, 0));
        note(s, () -> b.askGroups(0, 0, 0));
        note(s, b::addTable);
        return s.toString();
    }

    private interface Answer {
        int get();
    }

    private static boolean note(StringBuilder s, Answer answer) {
        try {
            s.append(' ').append(answer.get());
            return true;
        } catch (RuntimeException e) {
            s.append(' ').append(e.getClass().getName());
            return false;
        }
    }

    private static void pictureTable(ClubBase b, int t, StringBuilder s) {
        s.append("\ntable ").append(t);
        if (!note(s, () -> b.rows(t))) return;
        for (int c = 0; c < 6; c++) {
            int column = c;
            if (!note(s, () -> b.wouldLoseAll(t, column))) break;
            note(s, () -> b.wouldLose(t, column, -9999, 9998));
            for (int row = 0; row < 6; row++) {
                int at = row;
                note(s, () -> b.cell(t, at, column));
            }
        }
    }

    /** What cells take, and what links do: the design behind the cells. */
    private static void pictureBounds(ClubBase b, int t, StringBuilder s) {
        s.append("\nbounds ").append(t);
        for (int c = 0; c < 6; c++) {
            int column = c;
            if (!note(s, () -> b.wouldLoseAll(t, column))) break;
            for (int number : new int[] {ClubBase.BLANK, 0, 1, 9}) note(s, () -> b.put(t, 0, column, number) ? 1 : 0);
            note(s, () -> b.setRemoval(t, column, ClubBase.BLANKS));
        }
    }

    private static void pictureQuestion(ClubBase b, int q, StringBuilder s) {
        s.append("\nquestion ").append(q);
        if (!note(s, () -> b.columns(q))) return;
        int answers = b.answers(q);
        int columns = b.columns(q);
        s.append(" answers ").append(answers);
        for (int a = 0; a < answers; a++) {
            for (int c = a % 2; c < columns; c += 2) s.append(' ').append(b.answer(q, a, c));
        }
        note(s, () -> b.condition(q, 0, 0, 0, 0));
    }
}
