import java.lang.reflect.Constructor;
import java.lang.reflect.Field;
import java.lang.reflect.Method;
import java.lang.reflect.Modifier;
import java.util.Arrays;
import java.util.TreeSet;

/** "The public face": the constants with their numbers, the methods with their exceptions, and nothing else. */
public final class FaceTest {
    private static final String[] CONSTANTS = {"BLANK=-1000000", "FORBIDS=0", "FOLLOWS=1", "BLANKS=2", "ADD=0", "TIMES=1", "LOOK=2", "TOTAL=3",
        "COUNT=4", "AT_MOST=0", "ALIKE=1", "UNLIKE=2", "BOTH=3", "IS=0", "LEAST=1", "MOST=2", "EMPTY=3", "RANGE=1", "NEED=2", "SINGLE=3", "LINK=4",
        "RULE=5", "FORBIDDEN=6", "UNWRITABLE=7", "USED=8", "CIRCLE=9", "FULL=10"};

    /** Name, parameters (i is an int, z a boolean), what it answers, and its exceptions in their order: X index, A argument, S state. */
    private static final String[] METHODS = {"addTable() i S", "addNumber(iii) i XAS", "addLink(iii) i XAS", "addReckoned(iiiii) i XAS",
        "reckonAnew(iiiiii) z XA", "need(iiz) z XA", "single(iiz) z XA", "wouldLose(iiii) i XA", "narrow(iiii) z XA", "wouldLoseAll(ii) i X",
        "drop(ii) z XA", "setRemoval(iii) i XA", "addRule(iiiii) i XAS", "dropRule(i) v X", "order(i) i X", "reason() i ", "whereTable() i ",
        "whereRow() i ", "whereColumn() i ", "broken() i ", "type(ii) i A", "clearDraft() i ", "enter(i) i XS", "put(iiii) z XA", "remove(ii) z X",
        "openForm(ii) v X", "enterInside(ii) i XSA", "choice(iiii) i XA", "cell(iii) i X", "isThere(ii) z X", "rows(i) i X", "ask(ii) i XAS",
        "condition(iiiii) i XAS", "askGroups(iii) i XAS", "askCross(iiii) i XAS", "answers(i) i X", "columns(i) i X", "answer(iii) i X",
        "keyOf(ii) i XA", "target(iii) i X", "write(iiii) z XA", "addAct() i S", "stepPut(iiii) i XAS", "stepAdd(ii) i XS", "stepRemove(iii) i XAS",
        "stepIf(iii) i XAS", "run(i) z X", "undoable() i ", "undo() i S"};

    private static String letter(Class<?> type) {
        if (type == int.class) return "i";
        if (type == boolean.class) return "z";
        if (type == void.class) return "v";
        if (type == IndexOutOfBoundsException.class) return "X";
        if (type == IllegalArgumentException.class) return "A";
        return type == IllegalStateException.class ? "S" : "?";
    }

    private static String letters(Class<?>[] types) {
        StringBuilder s = new StringBuilder();
        for (Class<?> type : types) s.append(letter(type));
        return s.toString();
    }

    private static void same(String what, TreeSet<String> got, String[] due) {
        TreeSet<String> all = new TreeSet<>(Arrays.asList(due));
        for (String one : all) Check.due(what + " " + one, got.contains(one), true);
        for (String one : got) Check.due(what + " beside the face: " + one, all.contains(one), true);
    }

    static void theConstantsHaveTheirNumbers() throws IllegalAccessException {
        TreeSet<String> got = new TreeSet<>();
        for (Field f : ClubBase.class.getDeclaredFields()) {
            if (Modifier.isPrivate(f.getModifiers())) continue;
            got.add(f.getName() + "=" + f.getInt(null));
            Check.due(f.getName() + " is public, static and final", f.getModifiers(), Modifier.PUBLIC | Modifier.STATIC | Modifier.FINAL);
        }
        same("constant", got, CONSTANTS);
    }

    static void theMethodsAreThoseOfTheFace() {
        TreeSet<String> got = new TreeSet<>();
        for (Method m : ClubBase.class.getDeclaredMethods()) {
            if (Modifier.isPrivate(m.getModifiers()) || m.isSynthetic()) continue;
            got.add(m.getName() + "(" + letters(m.getParameterTypes()) + ") " + letter(m.getReturnType()) + " " + letters(m.getExceptionTypes()));
            Check.due(m.getName() + " is public", m.getModifiers(), Modifier.PUBLIC);
        }
        same("method", got, METHODS);
    }

    static void theClassIsPublicAndFinal() {
        Check.due("class", ClubBase.class.getModifiers(), Modifier.PUBLIC | Modifier.FINAL);
        Constructor<?>[] all = ClubBase.class.getDeclaredConstructors();
        Check.due("constructors", all.length, 1);
        Check.due("without parameters", all[0].getParameterCount(), 0);
        Check.due("it is public", all[0].getModifiers(), Modifier.PUBLIC);
    }

    /** Promise 1: "Creates a database without tables, questions and acts", also if there are others that have some. */
    static void aNewObjectSharesNothing() {
        ClubBase filled = new ClubBase();
        Club.all(filled);
        ClubBase b = new ClubBase();
        Check.due("undoable", b.undoable(), 0);
        Check.due("broken", b.broken(), 0);
        Check.reason("no reason", b, 0, -1, -1, -1);
        Check.thrown("no table", Check.INDEX, b, x -> x.rows(0));
        Check.thrown("no source", Check.INDEX, b, x -> x.ask(0, -1));
        Check.thrown("no question", Check.INDEX, b, x -> x.columns(0));
        Check.thrown("no act", Check.INDEX, b, x -> x.run(0));
        Check.thrown("no rule", Check.INDEX, b, x -> x.dropRule(0));
        Check.thrown("no reckoned column", Check.INDEX, b, x -> x.order(0));
        Check.thrown("nothing to take back", Check.STATE, b, ClubBase::undo);
        Check.due("an empty draft", b.clearDraft(), 0);
        Check.due("the first table", b.addTable(), 0);
        Check.due("its first column", b.addLink(0, 0, ClubBase.BLANKS), 0);
        Check.thrown("no form", Check.STATE, b, x -> x.enterInside(0, 0));
        Check.due("the first rule", b.addRule(0, 0, ClubBase.BOTH, 0, 0), 0);
        Check.due("the first row", b.enter(0), 0);
        Check.due("the first question", b.ask(0, -1), 0);
        Check.due("the first act", b.addAct(), 0);
        Check.due("the other one is as it was", filled.rows(1), 4);
        Check.due("the other one can take back", filled.undo(), 0);
    }

    public static void main(String[] args) {
        Check.methods(FaceTest.class);
    }
}
