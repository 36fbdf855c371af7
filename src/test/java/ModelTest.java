import java.lang.reflect.InvocationTargetException;
import java.lang.reflect.Method;
import java.util.ArrayList;
import java.util.HashMap;
import java.util.List;
import java.util.Map;
import java.util.TreeMap;

/**
 * Long runs of calls, the same each time, on a ClubBase and on a Model; the first call that is
 * answered differently is told. Exceptions are compared by their very class, so that one of the
 * machine's own (say ArrayIndexOutOfBoundsException) does not pass for one of the document's.
 */
public final class ModelTest {
    private static final int CALLS = 512;
    private static final int RUNS = 600;

    /** The calls of each kind: how often they come, a name, and what its arguments are. */
    private static final String[][] KINDS = {
        { // design
            "1 addTable", "4 addNumber t least most", "4 addLink t t removal", "7 addReckoned t formula one two other",
            "9 reckonAnew t rc formula one two other", "4 need t c is", "4 single t c is", "2 wouldLose t nc least most",
            "5 narrow t nc least most", "2 wouldLoseAll t c", "2 drop t c", "4 setRemoval t lc removal",
            "5 addRule t c relation c more", "1 dropRule rule", "3 order place"},
        { // refusals
            "3 reason", "3 whereTable", "3 whereRow", "3 whereColumn", "1 broken"},
        { // rows
            "30 type c v", "1 clearDraft", "20 enter t", "14 put t r c v", "4 remove t r", "2 openForm t r",
            "5 enterInside t lc", "5 choice t r lc from", "12 cell t r c", "2 isThere t r", "2 rows t"},
        { // questions
            "5 ask s join", "3 condition q line qc cond cv", "3 askGroups s sc sc", "2 askCross s sc sc sc", "6 answers q",
            "5 columns q", "14 answer q a qc", "5 keyOf q qc", "7 target q a qc", "7 write q a qc v"},
        { // acts
            "1 addAct", "4 stepPut act q qc v", "3 stepAdd act t", "2 stepRemove act q qc", "3 stepIf act q skip",
            "12 run act", "3 undoable", "5 undo"},
    };

    /** How much each kind counts in the profiles of runs. */
    private static final int[][] PROFILES = {{4, 4, 4, 4, 4}, {2, 4, 12, 1, 1}, {1, 1, 5, 9, 2}, {1, 3, 5, 3, 12}, {8, 4, 8, 2, 1}};

    private static final Map<String, Method> REAL = methods(ClubBase.class);
    private static final Map<String, Method> PLAIN = methods(Model.class);
    private static final Map<String, Integer> SEEN = new TreeMap<>();

    private final ClubBase real = new ClubBase();
    private final Model plain = new Model();
    private final List<String> told = new ArrayList<>();
    private long seed;
    private int table;
    private int formula;
    private int one;
    private int other;
    private int source;
    private int question;

    private ModelTest(long seed) {
        this.seed = seed * 7919L + 17;
    }

    private static Map<String, Method> methods(Class<?> of) {
        Map<String, Method> all = new HashMap<>();
        for (Method m : of.getDeclaredMethods()) {
            if (java.lang.reflect.Modifier.isPublic(m.getModifiers())) all.put(m.getName(), m);
        }
        return all;
    }

    private int any(int bound) {
        seed = seed * 6364136223846793005L + 1442695040888963407L;
        return (int) ((seed >>> 33) % bound);
    }

    private int pick(int... of) {
        return of[any(of.length)];
    }

    /** A column of a kind in a table that the run has; any one if there is none. */
    private int columnOf(int t, char kind) {
        List<Integer> all = new ArrayList<>();
        for (int c = 0; t >= 0 && t < plain.now.tabs.size() && c < plain.now.tabs.get(t).cols.size(); c++) {
            if (kind == '*' || plain.now.tabs.get(t).cols.get(c).kind == kind) all.add(c);
        }
        return all.isEmpty() ? any(6) : all.get(any(all.size()));
    }

    private int rowOf(int t) {
        List<Integer> all = new ArrayList<>();
        for (int r = 0; t >= 0 && t < plain.now.tabs.size() && r < plain.now.tabs.get(t).rows.size(); r++) {
            if (plain.now.there(t, r)) all.add(r);
        }
        return all.isEmpty() ? any(6) : all.get(any(all.size()));
    }

    private int table() {
        int made = plain.now.tabs.size();
        return made == 0 ? 0 : any(made);
    }

    /** An argument that mostly fits to those that were made ahead of it: the last table, formula, source or question. */
    private int argument(String kind) {
        boolean odd = any(25) == 0;
        switch (kind) {
            case "t": return table = odd ? pick(-1, 3, 4, 9) : table();
            case "c": return odd ? pick(-1, 5, 6, 7) : columnOf(table, '*');
            case "nc": return odd ? any(6) : columnOf(table, 'n');
            case "lc": return odd ? any(6) : columnOf(table, 'l');
            case "rc": return odd ? any(6) : columnOf(table, 'r');
            case "r": return odd ? pick(-1, 30, 31, 12) : rowOf(table);
            case "v": return odd ? pick(9999, -9999, 10000, -10000, -999999) : any(6) == 0 ? Model.BLANK : any(12) == 0 ? 700 + any(99) : any(pick(3, 3, 6, 12)) - any(8) / 7;
            case "least": return odd ? pick(-10000, 5, 9999) : pick(-9999, 0, -5, 0, 1);
            case "most": return odd ? pick(10000, -1, -9999) : pick(9999, 9, 5, 99);
            case "removal": return odd ? pick(-1, 3) : any(3);
            case "formula": return formula = odd ? pick(-1, 5) : any(5);
            case "one":
                other = odd ? pick(-1, 4) : table();
                return one = odd ? any(7) : columnOf(formula >= 3 ? other : table, formula >= 2 ? 'l' : '*');
            case "two": return odd ? pick(-1, 6, 0) : columnOf(formula == 2 ? targetOf(table, one) : formula == 3 ? other : table, '*');
            case "other": return formula >= 3 ? other : pick(-1, 0, 9);
            case "relation": return odd ? pick(-1, 4) : any(4);
            case "more": return odd ? pick(-9999, 9999, 10000, -10000) : pick(0, 0, 1, -1, 5, 20, 1000);
            case "rule": return odd ? -1 : any(8);
            case "place": return odd ? -1 : any(4);
            case "is": return any(2);
            case "from": return odd ? pick(-1, 30, 2147483647) : any(4);
            case "s": return source = odd ? pick(-1, 4, 9, 18) : any(2) == 0 || plain.queries.isEmpty() ? table() : 10 + any(plain.queries.size());
            case "join": return odd ? pick(-2, 6, 60) : any(3) == 0 ? -1 : source < 10 ? columnOf(source, 'l') : any(width(source - 10));
            case "sc": return odd ? pick(-1, 6, 60) : source < 10 ? columnOf(source, '*') : any(width(source - 10));
            case "q": return question = odd || plain.queries.isEmpty() ? pick(-1, 8) : any(plain.queries.size());
            case "qc": return odd ? pick(-1, 9, 12, 60) : any(width(question));
            case "a": return odd ? pick(-1, 30) : any(height(question));
            case "line": return odd ? pick(-1, 3) : any(3);
            case "cond": return odd ? pick(-1, 4) : any(4);
            case "cv": return odd ? pick(-1000000, 1000000, 999999, -999999) : any(6);
            case "act": return odd ? pick(-1, 4) : any(4);
            case "skip": return odd ? pick(0, 6) : 1 + any(5);
            default: throw new IllegalStateException(kind);
        }
    }

    private int targetOf(int t, int c) {
        boolean has = t >= 0 && t < plain.now.tabs.size() && c >= 0 && c < plain.now.tabs.get(t).cols.size();
        return has ? plain.now.tabs.get(t).cols.get(c).a : 0;
    }

    private int width(int q) {
        return q >= 0 && q < plain.queries.size() ? Math.max(1, plain.columns(q)) : 6;
    }

    private int height(int q) {
        return q >= 0 && q < plain.queries.size() ? Math.max(1, plain.answers(q)) : 6;
    }

    private static String outcome(Method method, Object on, Object[] arguments) throws IllegalAccessException {
        try {
            Object answer = method.invoke(on, arguments);
            return answer == null ? "void" : answer.toString();
        } catch (InvocationTargetException e) {
            return "throws " + e.getCause().getClass().getName();
        }
    }

    private String call(String name, int... arguments) throws IllegalAccessException {
        Method method = REAL.get(name);
        Object[] given = new Object[arguments.length];
        for (int i = 0; i < given.length; i++) {
            given[i] = method.getParameterTypes()[i] == boolean.class ? (Object) (arguments[i] == 1) : (Object) arguments[i];
        }
        String due = outcome(PLAIN.get(name), plain, given);
        String got = outcome(method, real, given);
        told.add(name + java.util.Arrays.toString(given) + " -> " + got);
        String kind = due.startsWith("throws") || due.equals("true") || due.equals("false") || due.equals("-1") ? due : "number";
        SEEN.merge(name + " " + kind, 1, Integer::sum);
        if (!due.equals(got)) {
            for (String line : told) System.out.println(line);
            System.out.println("due is " + due);
            System.exit(1);
        }
        if (due.equals("false") || due.equals("-1")) SEEN.merge(name + " refused by " + plain.reason(), 1, Integer::sum);
        return due;
    }

    private void design(int tables) throws IllegalAccessException {
        for (int t = 0; t < tables; t++) call("addTable");
        for (int t = 0; t < tables; t++) {
            for (int n = 1 + any(3); n > 0; n--) {
                if (any(5) < 3) call("addNumber", t, pick(0, -9999), pick(9, 9999));
                else call("addLink", t, any(tables), any(3));
            }
        }
    }

    private void run() throws IllegalAccessException {
        int[] profile = PROFILES[any(PROFILES.length)];
        int tables = 1 + any(3);
        if (any(8) != 0) design(tables);
        List<String> calls = new ArrayList<>();
        for (int kind = 0; kind < KINDS.length; kind++) {
            for (String call : KINDS[kind]) {
                int often = Integer.parseInt(call.substring(0, call.indexOf(' '))) * profile[kind];
                for (int i = 0; i < often; i++) calls.add(call.substring(call.indexOf(' ') + 1));
            }
        }
        while (told.size() < CALLS) {
            String[] words = calls.get(any(calls.size())).split(" ");
            int[] arguments = new int[words.length - 1];
            for (int i = 0; i < arguments.length; i++) {
                arguments[i] = any(150) == 0 ? pick(Integer.MIN_VALUE, Integer.MAX_VALUE, -1, 10) : argument(words[i + 1]);
            }
            call(words[0], arguments);
        }
    }

    public static void main(String[] args) throws IllegalAccessException {
        int runs = args.length > 0 ? Integer.parseInt(args[0]) : RUNS;
        for (int i = 0; i < runs; i++) new ModelTest(i).run();
        if (args.length > 1) SEEN.forEach((what, times) -> System.out.println(times + " " + what));
        System.out.println("ModelTest: " + runs + " runs are as due");
    }
}
