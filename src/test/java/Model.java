import java.util.ArrayList;
import java.util.HashMap;
import java.util.List;
import java.util.Map;
import java.util.TreeMap;
import java.util.TreeSet;

/**
 * The document once more, in the plainest form: each change is made on a copy of all, cells are
 * found on demand, and answers are lists. ModelTest compares ClubBase with it, call by call.
 */
public final class Model {
    static final int BLANK = -1000000;

    /** A column; kind is 'n'umber, 'l'ink, 'r'eckoned or 'd'ropped. */
    static final class Col {
        char kind;
        int a, b, formula, one, two, other;
        boolean needed, single;

        Col copy() {
            Col c = new Col();
            c.kind = kind; c.a = a; c.b = b; c.formula = formula; c.one = one; c.two = two; c.other = other;
            c.needed = needed; c.single = single;
            return c;
        }

        boolean stored() {
            return kind == 'n' || kind == 'l';
        }
    }

    static final class Row {
        final long id;
        boolean there = true;
        final Map<Integer, Integer> cells = new HashMap<>();

        Row(long id) {
            this.id = id;
        }

        Row copy() {
            Row r = new Row(id);
            r.there = there;
            r.cells.putAll(cells);
            return r;
        }
    }

    static final class Tab {
        final List<Col> cols = new ArrayList<>();
        final List<Row> rows = new ArrayList<>();
    }

    /** Design and rows; never changed once something was asked of it. */
    static final class State {
        final List<Tab> tabs = new ArrayList<>();
        final List<int[]> rules = new ArrayList<>(); // table, one, relation, other, more, dropped
        private final Map<List<Integer>, Integer> memo = new HashMap<>();

        State copy() {
            State s = new State();
            for (Tab t : tabs) {
                Tab u = new Tab();
                for (Col c : t.cols) u.cols.add(c.copy());
                for (Row r : t.rows) u.rows.add(r.copy());
                s.tabs.add(u);
            }
            for (int[] r : rules) s.rules.add(r.clone());
            return s;
        }

        boolean there(int t, int r) {
            return r >= 0 && r < tabs.get(t).rows.size() && tabs.get(t).rows.get(r).there;
        }

        int cell(int t, int r, int c) {
            List<Integer> key = List.of(t, r, c);
            Integer known = memo.get(key);
            if (known == null) {
                known = find(t, r, c);
                memo.put(key, known);
            }
            return known;
        }

        private int find(int t, int r, int c) {
            Col col = tabs.get(t).cols.get(c);
            if (col.kind == 'd') return BLANK;
            if (col.kind != 'r') return tabs.get(t).rows.get(r).cells.getOrDefault(c, BLANK);
            long sum = 0;
            switch (col.formula) {
                case 0: case 1: {
                    long x = cell(t, r, col.one), y = cell(t, r, col.two);
                    if (x == BLANK || y == BLANK) return BLANK;
                    return fit(col.formula == 0 ? x + y : x * y);
                }
                case 2: {
                    int to = cell(t, r, col.one), at = tabs.get(t).cols.get(col.one).a;
                    return to != BLANK && there(at, to) ? cell(at, to, col.two) : BLANK;
                }
                default:
                    for (int i = 0; i < tabs.get(col.other).rows.size(); i++) {
                        if (there(col.other, i) && cell(col.other, i, col.one) == r) {
                            int v = col.formula == 4 ? 1 : cell(col.other, i, col.two);
                            if (v != BLANK) sum += v;
                        }
                    }
                    return fit(sum);
            }
        }

        /** All that is broken, in the order of the document: reason, table, row, column or rule. */
        List<int[]> broken() {
            List<int[]> all = new ArrayList<>();
            for (int t = 0; t < tabs.size(); t++) {
                for (int r = 0; r < tabs.get(t).rows.size(); r++) {
                    if (!there(t, r)) continue;
                    for (int c = 0; c < tabs.get(t).cols.size(); c++) {
                        Col col = tabs.get(t).cols.get(c);
                        int v = cell(t, r, c);
                        if (col.kind == 'n' && v != BLANK && (v < col.a || v > col.b)) all.add(new int[] {1, t, r, c});
                        if (col.stored() && col.needed && v == BLANK) all.add(new int[] {2, t, r, c});
                        if (col.stored() && col.single && v != BLANK) {
                            boolean twice = false;
                            for (int i = 0; i < r; i++) twice |= there(t, i) && cell(t, i, c) == v;
                            if (twice) all.add(new int[] {3, t, r, c});
                        }
                        if (col.kind == 'l' && v != BLANK && !there(col.a, v)) all.add(new int[] {4, t, r, c});
                    }
                    for (int n = 0; n < rules.size(); n++) {
                        if (rules.get(n)[0] == t && rules.get(n)[5] == 0 && !holds(rules.get(n), r)) all.add(new int[] {5, t, r, n});
                    }
                }
            }
            return all;
        }

        private boolean holds(int[] rule, int r) {
            int x = cell(rule[0], r, rule[1]), y = cell(rule[0], r, rule[3]);
            boolean oneBlank = x == BLANK || y == BLANK;
            switch (rule[2]) {
                case 0: return oneBlank || x <= y + rule[4];
                case 1: return oneBlank || x == y + rule[4];
                case 2: return oneBlank || x != y + rule[4];
                default: return x == BLANK && y == BLANK || !oneBlank;
            }
        }

        /** The columns that a formula takes cells of, and links, as 10 times the table plus the column. */
        List<Integer> usedBy(int t, Col col) {
            if (col.kind != 'r') return List.of();
            switch (col.formula) {
                case 0: case 1: return List.of(10 * t + col.one, 10 * t + col.two);
                case 2: return List.of(10 * t + col.one, 10 * tabs.get(t).cols.get(col.one).a + col.two);
                case 3: return List.of(10 * col.other + col.one, 10 * col.other + col.two);
                default: return List.of(10 * col.other + col.one);
            }
        }

        /** The order of reckoned columns, or null if there is a circle. */
        List<Integer> order() {
            TreeMap<Integer, List<Integer>> waiting = new TreeMap<>();
            for (int t = 0; t < tabs.size(); t++) {
                for (int c = 0; c < tabs.get(t).cols.size(); c++) {
                    Col col = tabs.get(t).cols.get(c);
                    if (col.kind == 'r') waiting.put(10 * t + c, usedBy(t, col));
                }
            }
            List<Integer> order = new ArrayList<>();
            while (!waiting.isEmpty()) {
                Integer next = null;
                for (Integer code : waiting.keySet()) {
                    if (next == null && waiting.get(code).stream().noneMatch(waiting::containsKey)) next = code;
                }
                if (next == null) return null;
                order.add(next);
                waiting.remove(next);
            }
            return order;
        }
    }

    static int fit(long v) {
        return v < -999999 || v > 999999 ? BLANK : (int) v;
    }

    /** An answer: its cells, and for each the table, row and column from which it comes, or null. */
    static final class Ans {
        final List<Integer> cells = new ArrayList<>();
        final List<int[]> from = new ArrayList<>();
    }

    static final class Query {
        char kind; // 'p'lain, 'g'rouped, 'c'ross
        int source, join = -1, key = -1, second = -1, value = -1;
        int width, joinedWidth, sourceWidth;
        final List<int[]> conditions = new ArrayList<>(); // line, column, relation, value
        final List<Integer> origins = new ArrayList<>(); // 10 * table + column, or null
    }

    /** A step that is done on a copy; the reason why not, or null. */
    interface Change {
        int[] make(State s);
    }

    State now = new State();
    private int[] why = {0, -1, -1, -1};
    private int[] draft = {BLANK, BLANK, BLANK, BLANK, BLANK, BLANK};
    private long lastId = 0;
    private int[] form;
    private long formId;
    final List<Query> queries = new ArrayList<>();
    private final List<List<int[]>> acts = new ArrayList<>(); // kind, question, column, value, then a draft
    private final List<State> undos = new ArrayList<>();

    // ---- tests of arguments

    private static void index(boolean good) {
        if (!good) throw new IndexOutOfBoundsException();
    }

    private static void argument(boolean good) {
        if (!good) throw new IllegalArgumentException();
    }

    private static void state(boolean good) {
        if (!good) throw new IllegalStateException();
    }

    private void table(int t) {
        index(t >= 0 && t < now.tabs.size());
    }

    private void column(int t, int c) {
        table(t);
        index(c >= 0 && c < now.tabs.get(t).cols.size());
    }

    private void row(int t, int r) {
        table(t);
        index(now.there(t, r));
    }

    private Col col(int t, int c) {
        return now.tabs.get(t).cols.get(c);
    }

    private static boolean typed(int v) {
        return v == BLANK || v >= -9999 && v <= 9999;
    }

    private static boolean range(int least, int most) {
        return least >= -9999 && most <= 9999 && least <= most;
    }

    // ---- changes

    private boolean attempt(Change change) {
        State next = now.copy();
        int[] no = change.make(next);
        if (no == null) {
            List<int[]> broken = next.broken();
            if (!broken.isEmpty()) no = broken.get(0);
        }
        if (no != null) {
            why = no;
            return false;
        }
        now = next;
        return true;
    }

    private boolean told(boolean good) {
        if (good) {
            why = new int[] {0, -1, -1, -1};
            undos.clear();
        }
        return good;
    }

    private void design(Change change) {
        State next = now.copy();
        change.make(next);
        now = next;
        undos.clear();
    }

    private int newCol(int t, Col col) {
        state(now.tabs.get(t).cols.size() < 6);
        int c = now.tabs.get(t).cols.size();
        design(s -> { s.tabs.get(t).cols.add(col); return null; });
        return c;
    }

    public int addTable() {
        state(now.tabs.size() < 4);
        design(s -> { s.tabs.add(new Tab()); return null; });
        return now.tabs.size() - 1;
    }

    public int addNumber(int t, int least, int most) {
        table(t);
        argument(range(least, most));
        Col c = new Col();
        c.kind = 'n'; c.a = least; c.b = most;
        return newCol(t, c);
    }

    public int addLink(int t, int target, int removal) {
        table(t);
        table(target);
        argument(removal >= 0 && removal <= 2);
        Col c = new Col();
        c.kind = 'l'; c.a = target; c.b = removal;
        return newCol(t, c);
    }

    private void formula(int t, int formula, int one, int two, int other) {
        if (formula == 0 || formula == 1) {
            column(t, one);
            column(t, two);
            argument(col(t, one).kind != 'd' && col(t, two).kind != 'd');
        } else if (formula == 2) {
            column(t, one);
            argument(col(t, one).kind == 'l');
            column(col(t, one).a, two);
            argument(col(col(t, one).a, two).kind != 'd');
        } else if (formula == 3 || formula == 4) {
            column(other, one);
            if (formula == 3) column(other, two);
            argument(col(other, one).kind == 'l' && col(other, one).a == t);
            argument(formula == 4 || col(other, two).kind != 'd');
        } else {
            argument(false);
        }
    }

    private static void give(Col c, int formula, int one, int two, int other) {
        c.kind = 'r'; c.formula = formula; c.one = one; c.two = two; c.other = other;
    }

    public int addReckoned(int t, int formula, int one, int two, int other) {
        table(t);
        formula(t, formula, one, two, other);
        Col c = new Col();
        give(c, formula, one, two, other);
        return newCol(t, c);
    }

    public boolean reckonAnew(int t, int c, int formula, int one, int two, int other) {
        column(t, c);
        formula(t, formula, one, two, other);
        argument(col(t, c).kind == 'r');
        return told(attempt(s -> {
            give(s.tabs.get(t).cols.get(c), formula, one, two, other);
            return s.order() == null ? new int[] {9, t, -1, c} : null;
        }));
    }

    public boolean need(int t, int c, boolean is) {
        column(t, c);
        argument(col(t, c).stored());
        return told(attempt(s -> { s.tabs.get(t).cols.get(c).needed = is; return null; }));
    }

    public boolean single(int t, int c, boolean is) {
        column(t, c);
        argument(col(t, c).stored());
        return told(attempt(s -> { s.tabs.get(t).cols.get(c).single = is; return null; }));
    }

    private List<Row> outside(State s, int t, int c, int least, int most) {
        List<Row> rows = new ArrayList<>();
        for (Row r : s.tabs.get(t).rows) {
            int v = r.cells.getOrDefault(c, BLANK);
            if (r.there && v != BLANK && (v < least || v > most)) rows.add(r);
        }
        return rows;
    }

    public int wouldLose(int t, int c, int least, int most) {
        column(t, c);
        argument(col(t, c).kind == 'n' && range(least, most));
        return outside(now, t, c, least, most).size();
    }

    public boolean narrow(int t, int c, int least, int most) {
        column(t, c);
        argument(col(t, c).kind == 'n' && range(least, most));
        return told(attempt(s -> {
            s.tabs.get(t).cols.get(c).a = least;
            s.tabs.get(t).cols.get(c).b = most;
            for (Row r : outside(s, t, c, least, most)) r.cells.remove(c);
            return null;
        }));
    }

    public int wouldLoseAll(int t, int c) {
        column(t, c);
        int n = 0;
        for (int r = 0; r < now.tabs.get(t).rows.size(); r++) {
            if (now.there(t, r) && now.cell(t, r, c) != BLANK) n++;
        }
        return n;
    }

    private boolean used(int t, int c) {
        int code = 10 * t + c;
        boolean used = false;
        for (int i = 0; i < now.tabs.size(); i++) {
            for (Col col : now.tabs.get(i).cols) used |= now.usedBy(i, col).contains(code);
        }
        for (int[] r : now.rules) used |= r[5] == 0 && r[0] == t && (r[1] == c || r[3] == c);
        for (Query q : queries) {
            for (int place : new int[] {q.join, q.key, q.second, q.value}) {
                Integer from = place < 0 ? null : originOf(q.source, place);
                used |= from != null && from == code;
            }
            for (int[] cond : q.conditions) {
                Integer from = q.origins.get(cond[1]);
                used |= from != null && from == code;
            }
        }
        return used;
    }

    public boolean drop(int t, int c) {
        column(t, c);
        argument(col(t, c).kind != 'd');
        boolean used = used(t, c);
        return told(attempt(s -> {
            if (used) return new int[] {8, t, -1, c};
            Col gone = new Col();
            gone.kind = 'd';
            s.tabs.get(t).cols.set(c, gone);
            return null;
        }));
    }

    public int setRemoval(int t, int c, int removal) {
        column(t, c);
        argument(col(t, c).kind == 'l' && removal >= 0 && removal <= 2);
        int before = col(t, c).b;
        design(s -> { s.tabs.get(t).cols.get(c).b = removal; return null; });
        return before;
    }

    public int addRule(int t, int one, int relation, int other, int more) {
        column(t, one);
        column(t, other);
        argument(relation >= 0 && relation <= 3 && more >= -9999 && more <= 9999);
        argument(col(t, one).kind != 'd' && col(t, other).kind != 'd');
        state(now.rules.size() < 8);
        int n = now.rules.size();
        return told(attempt(s -> { s.rules.add(new int[] {t, one, relation, other, more, 0}); return null; })) ? n : -1;
    }

    public void dropRule(int n) {
        index(n >= 0 && n < now.rules.size() && now.rules.get(n)[5] == 0);
        design(s -> { s.rules.get(n)[5] = 1; return null; });
    }

    public int order(int place) {
        List<Integer> order = now.order();
        index(place >= 0 && place < order.size());
        return order.get(place);
    }

    // ---- refusals

    public int reason() {
        return why[0];
    }

    public int whereTable() {
        return why[1];
    }

    public int whereRow() {
        return why[2];
    }

    public int whereColumn() {
        return why[3];
    }

    public int broken() {
        return now.broken().size();
    }

    // ---- rows

    public int type(int c, int v) {
        argument(c >= 0 && c <= 5 && typed(v));
        int before = draft[c];
        draft[c] = v;
        return before;
    }

    public int clearDraft() {
        int n = 0;
        for (int c = 0; c < 6; c++) {
            if (draft[c] != BLANK) n++;
            draft[c] = BLANK;
        }
        return n;
    }

    private int[] add(State s, int t, int[] cells, int linkColumn, int linkTo) {
        Row r = new Row(++lastId);
        for (int c = 0; c < s.tabs.get(t).cols.size(); c++) {
            int v = c == linkColumn ? linkTo : cells[c];
            if (s.tabs.get(t).cols.get(c).stored() && v != BLANK) r.cells.put(c, v);
        }
        s.tabs.get(t).rows.add(r);
        return null;
    }

    private int entered(boolean good, int number) {
        if (!told(good)) return -1;
        draft = new int[] {BLANK, BLANK, BLANK, BLANK, BLANK, BLANK};
        return number;
    }

    public int enter(int t) {
        table(t);
        int number = now.tabs.get(t).rows.size();
        state(number < 30);
        return entered(attempt(s -> add(s, t, draft, -1, BLANK)), number);
    }

    private boolean set(int t, int r, int c, int v) {
        return attempt(s -> {
            s.tabs.get(t).rows.get(r).cells.put(c, v);
            return null;
        });
    }

    public boolean put(int t, int r, int c, int v) {
        row(t, r);
        column(t, c);
        argument(col(t, c).stored() && typed(v));
        return told(set(t, r, c, v));
    }

    private boolean take(int t, int r) {
        return attempt(s -> {
            TreeSet<Integer> going = new TreeSet<>(List.of(100 * t + r));
            boolean more = true;
            while (more) {
                more = false;
                for (int[] link : links(s, 1)) {
                    more |= going.contains(link[3]) && going.add(100 * link[0] + link[1]);
                }
            }
            for (int[] link : links(s, 0)) {
                if (going.contains(link[3]) && !going.contains(100 * link[0] + link[1])) {
                    return new int[] {6, link[0], link[1], link[2]};
                }
            }
            for (int[] link : links(s, 2)) {
                if (going.contains(link[3])) s.tabs.get(link[0]).rows.get(link[1]).cells.remove(link[2]);
            }
            for (int code : going) s.tabs.get(code / 100).rows.get(code % 100).there = false;
            return null;
        });
    }

    /** The filled links of one kind: table, row, column, and 100 times the table plus the row to which they lead. */
    private static List<int[]> links(State s, int removal) {
        List<int[]> all = new ArrayList<>();
        for (int t = 0; t < s.tabs.size(); t++) {
            for (int r = 0; r < s.tabs.get(t).rows.size(); r++) {
                for (int c = 0; c < s.tabs.get(t).cols.size(); c++) {
                    Col col = s.tabs.get(t).cols.get(c);
                    Integer v = s.tabs.get(t).rows.get(r).cells.get(c);
                    if (s.there(t, r) && col.kind == 'l' && col.b == removal && v != null && v != BLANK) {
                        all.add(new int[] {t, r, c, 100 * col.a + v});
                    }
                }
            }
        }
        return all;
    }

    public boolean remove(int t, int r) {
        row(t, r);
        return told(take(t, r));
    }

    public void openForm(int t, int r) {
        row(t, r);
        form = new int[] {t, r};
        formId = now.tabs.get(t).rows.get(r).id;
    }

    public int enterInside(int t, int c) {
        column(t, c);
        state(form != null && now.there(form[0], form[1]) && now.tabs.get(form[0]).rows.get(form[1]).id == formId);
        int number = now.tabs.get(t).rows.size();
        state(number < 30);
        argument(col(t, c).kind == 'l' && col(t, c).a == form[0]);
        return entered(attempt(s -> add(s, t, draft, c, form[1])), number);
    }

    public int choice(int t, int r, int c, int from) {
        row(t, r);
        column(t, c);
        argument(col(t, c).kind == 'l' && from >= 0);
        for (int to = from; to < now.tabs.get(col(t, c).a).rows.size(); to++) {
            if (!now.there(col(t, c).a, to)) continue;
            State next = now.copy();
            next.tabs.get(t).rows.get(r).cells.put(c, to);
            if (next.broken().isEmpty()) return to;
        }
        return -1;
    }

    public int cell(int t, int r, int c) {
        row(t, r);
        column(t, c);
        return now.cell(t, r, c);
    }

    public boolean isThere(int t, int r) {
        table(t);
        return now.there(t, r);
    }

    public int rows(int t) {
        table(t);
        return now.tabs.get(t).rows.size();
    }

    // ---- questions

    private void source(int s) {
        if (s >= 10) index(s - 10 < queries.size()); else table(s);
    }

    private void query(int q) {
        index(q >= 0 && q < queries.size());
    }

    private int width(int source) {
        if (source < 10) return now.tabs.get(source).cols.size();
        Query q = queries.get(source - 10);
        return q.kind == 'c' ? 1 + keys(q.source, q.second).size() : q.width;
    }

    private void sourceColumn(int s, int c) {
        index(c >= 0 && c < width(s));
    }

    private Integer originOf(int source, int c) {
        return source < 10 ? (Integer) (10 * source + c) : queries.get(source - 10).origins.get(c);
    }

    private boolean cross(int source) {
        return source >= 10 && queries.get(source - 10).kind == 'c';
    }

    public int ask(int source, int join) {
        source(source);
        if (join != -1) sourceColumn(source, join);
        argument(!cross(source));
        Query q = new Query();
        q.kind = 'p';
        q.source = source;
        q.join = join;
        q.sourceWidth = width(source);
        for (int c = 0; c < q.sourceWidth; c++) q.origins.add(originOf(source, c));
        if (join != -1) {
            Integer from = originOf(source, join);
            argument(from != null && col(from / 10, from % 10).kind == 'l');
            int target = col(from / 10, from % 10).a;
            q.joinedWidth = now.tabs.get(target).cols.size();
            for (int c = 0; c < q.joinedWidth; c++) q.origins.add(10 * target + c);
        }
        q.width = q.origins.size();
        state(queries.size() < 8);
        queries.add(q);
        return queries.size() - 1;
    }

    public int condition(int q, int line, int c, int relation, int v) {
        query(q);
        sourceColumn(10 + q, c);
        argument(queries.get(q).kind == 'p' && line >= 0 && line <= 2 && relation >= 0 && relation <= 3);
        argument(v >= -999999 && v <= 999999);
        state(queries.get(q).conditions.size() < 6);
        queries.get(q).conditions.add(new int[] {line, c, relation, v});
        return queries.get(q).conditions.size();
    }

    private int gathered(char kind, int source, int key, int second, int value) {
        argument(!cross(source));
        state(queries.size() < 8);
        Query q = new Query();
        q.kind = kind; q.source = source; q.key = key; q.second = second; q.value = value; q.width = 5;
        for (int c = 0; c < 5; c++) q.origins.add(null);
        queries.add(q);
        return queries.size() - 1;
    }

    public int askGroups(int source, int key, int value) {
        source(source);
        sourceColumn(source, key);
        sourceColumn(source, value);
        return gathered('g', source, key, -1, value);
    }

    public int askCross(int source, int first, int second, int value) {
        source(source);
        sourceColumn(source, first);
        sourceColumn(source, second);
        sourceColumn(source, value);
        return gathered('c', source, first, second, value);
    }

    private TreeSet<Integer> keys(int source, int c) {
        TreeSet<Integer> keys = new TreeSet<>();
        for (Ans a : list(source)) keys.add(a.cells.get(c));
        return keys;
    }

    private List<Ans> list(int source) {
        List<Ans> all = new ArrayList<>();
        if (source < 10) {
            for (int r = 0; r < now.tabs.get(source).rows.size(); r++) {
                if (!now.there(source, r)) continue;
                Ans a = new Ans();
                for (int c = 0; c < now.tabs.get(source).cols.size(); c++) {
                    a.cells.add(now.cell(source, r, c));
                    a.from.add(new int[] {source, r, c});
                }
                all.add(a);
            }
            return all;
        }
        Query q = queries.get(source - 10);
        return q.kind == 'p' ? plain(q) : q.kind == 'g' ? groups(q) : crossed(q);
    }

    private List<Ans> plain(Query q) {
        List<Ans> all = new ArrayList<>();
        for (Ans of : list(q.source)) {
            Ans a = new Ans();
            a.cells.addAll(of.cells.subList(0, q.sourceWidth));
            a.from.addAll(of.from.subList(0, q.sourceWidth));
            if (q.join >= 0) {
                int to = a.cells.get(q.join);
                if (to == BLANK) continue;
                int origin = originOf(q.source, q.join);
                int target = col(origin / 10, origin % 10).a;
                for (int c = 0; c < q.joinedWidth; c++) {
                    a.cells.add(now.cell(target, to, c));
                    a.from.add(new int[] {target, to, c});
                }
            }
            boolean counts = q.conditions.isEmpty();
            for (int line = 0; line < 3; line++) {
                int with = line;
                if (q.conditions.stream().anyMatch(x -> x[0] == with)) {
                    counts |= q.conditions.stream().allMatch(x -> x[0] != with || meets(x, a.cells.get(x[1])));
                }
            }
            if (counts) all.add(a);
        }
        return all;
    }

    private static boolean meets(int[] condition, int v) {
        switch (condition[2]) {
            case 0: return v != BLANK && v == condition[3];
            case 1: return v != BLANK && v >= condition[3];
            case 2: return v != BLANK && v <= condition[3];
            default: return v == BLANK;
        }
    }

    private static int sum(List<Integer> values) {
        return fit(values.stream().mapToLong(v -> v).sum());
    }

    private static Ans without(List<Integer> cells) {
        Ans a = new Ans();
        a.cells.addAll(cells);
        for (int c = 0; c < cells.size(); c++) a.from.add(null);
        return a;
    }

    private List<Ans> groups(Query q) {
        List<Ans> all = new ArrayList<>();
        for (int key : keys(q.source, q.key)) {
            List<Integer> values = new ArrayList<>();
            int n = 0;
            for (Ans of : list(q.source)) {
                if (of.cells.get(q.key) != key) continue;
                n++;
                if (of.cells.get(q.value) != BLANK) values.add(of.cells.get(q.value));
            }
            int least = values.stream().mapToInt(v -> v).min().orElse(BLANK);
            int most = values.stream().mapToInt(v -> v).max().orElse(BLANK);
            all.add(without(List.of(key, n, sum(values), least, most)));
        }
        return all;
    }

    private List<Ans> crossed(Query q) {
        List<Ans> all = new ArrayList<>();
        List<Ans> of = list(q.source);
        for (int first : keys(q.source, q.key)) {
            List<Integer> cells = new ArrayList<>(List.of(first));
            for (int second : keys(q.source, q.second)) {
                List<Integer> values = new ArrayList<>();
                boolean any = false;
                for (Ans a : of) {
                    if (a.cells.get(q.key) != first || a.cells.get(q.second) != second) continue;
                    any = true;
                    if (a.cells.get(q.value) != BLANK) values.add(a.cells.get(q.value));
                }
                cells.add(any ? sum(values) : BLANK);
            }
            all.add(without(cells));
        }
        return all;
    }

    public int answers(int q) {
        query(q);
        return list(10 + q).size();
    }

    public int columns(int q) {
        query(q);
        return width(10 + q);
    }

    private Ans found(int q, int a, int c) {
        query(q);
        List<Ans> all = list(10 + q);
        index(a >= 0 && a < all.size());
        index(c >= 0 && c < width(10 + q));
        return all.get(a);
    }

    public int answer(int q, int a, int c) {
        return found(q, a, c).cells.get(c);
    }

    public int keyOf(int q, int c) {
        query(q);
        index(c > 0 && c < width(10 + q));
        argument(queries.get(q).kind == 'c');
        return new ArrayList<>(keys(queries.get(q).source, queries.get(q).second)).get(c - 1);
    }

    private boolean through(int[] from) {
        return from != null && col(from[0], from[2]).stored();
    }

    public int target(int q, int a, int c) {
        int[] from = found(q, a, c).from.get(c);
        return through(from) ? 1000 * from[0] + 10 * from[1] + from[2] : -1;
    }

    private boolean writeThrough(int[] from, int v) {
        if (!through(from)) {
            why = new int[] {7, -1, -1, -1};
            return false;
        }
        return set(from[0], from[1], from[2], v);
    }

    public boolean write(int q, int a, int c, int v) {
        int[] from = found(q, a, c).from.get(c);
        argument(typed(v));
        return told(writeThrough(from, v));
    }

    // ---- acts

    public int addAct() {
        state(acts.size() < 4);
        acts.add(new ArrayList<>());
        return acts.size() - 1;
    }

    private void act(int a) {
        index(a >= 0 && a < acts.size());
    }

    private int step(int a, int... what) {
        state(acts.get(a).size() < 6);
        acts.get(a).add(what);
        return acts.get(a).size();
    }

    public int stepPut(int a, int q, int c, int v) {
        act(a);
        query(q);
        sourceColumn(10 + q, c);
        argument(queries.get(q).kind == 'p' && typed(v));
        return step(a, 'p', q, c, v);
    }

    public int stepAdd(int a, int t) {
        act(a);
        table(t);
        return step(a, 'a', t, draft[0], draft[1], draft[2], draft[3], draft[4], draft[5]);
    }

    public int stepRemove(int a, int q, int c) {
        act(a);
        query(q);
        sourceColumn(10 + q, c);
        argument(queries.get(q).kind == 'p');
        return step(a, 'r', q, c);
    }

    public int stepIf(int a, int q, int skip) {
        act(a);
        query(q);
        argument(skip >= 1 && skip <= 5);
        return step(a, 'i', q, skip);
    }

    public boolean run(int a) {
        act(a);
        State ahead = now;
        int skip = 0;
        for (int[] step : acts.get(a)) {
            if (skip > 0) {
                skip--;
            } else if (step[0] == 'i') {
                if (list(10 + step[1]).isEmpty()) skip = step[2];
            } else if (!done(step)) {
                now = ahead;
                return false;
            }
        }
        why = new int[] {0, -1, -1, -1};
        undos.add(ahead);
        if (undos.size() > 5) undos.remove(0);
        return true;
    }

    private boolean done(int[] step) {
        if (step[0] == 'a') {
            if (now.tabs.get(step[1]).rows.size() == 30) {
                why = new int[] {10, step[1], -1, -1};
                return false;
            }
            int[] cells = java.util.Arrays.copyOfRange(step, 2, 8);
            return attempt(s -> add(s, step[1], cells, -1, BLANK));
        }
        for (Ans answer : list(10 + step[1])) {
            int[] from = answer.from.get(step[2]);
            boolean good;
            if (step[0] == 'p') {
                good = writeThrough(from, step[3]);
            } else if (from == null) {
                why = new int[] {7, -1, -1, -1};
                good = false;
            } else {
                good = !now.there(from[0], from[1]) || take(from[0], from[1]);
            }
            if (!good) return false;
        }
        return true;
    }

    public int undoable() {
        return undos.size();
    }

    public int undo() {
        state(!undos.isEmpty());
        now = undos.remove(undos.size() - 1);
        return undos.size();
    }
}
