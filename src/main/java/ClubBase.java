import java.util.Arrays;

/**
 * A small database for a club secretary: tables, links, reckoned columns and rules, questions over
 * them, and acts that are done or taken back as a whole.
 *
 * <p>The face only tests its arguments and tells outcomes; Base holds the design and the rows, and
 * Asker finds answers. All arrays are made with the object, so that calls make nothing.
 */
public final class ClubBase {
    public static final int BLANK = -1000000;
    public static final int FORBIDS = 0, FOLLOWS = 1, BLANKS = 2;
    public static final int ADD = 0, TIMES = 1, LOOK = 2, TOTAL = 3, COUNT = 4;
    public static final int AT_MOST = 0, ALIKE = 1, UNLIKE = 2, BOTH = 3;
    public static final int IS = 0, LEAST = 1, MOST = 2, EMPTY = 3;
    public static final int RANGE = 1, NEED = 2, SINGLE = 3, LINK = 4, RULE = 5, FORBIDDEN = 6, UNWRITABLE = 7, USED = 8, CIRCLE = 9, FULL = 10;

    private static final int MAX_TABLES = 4;
    private static final int MAX_COLUMNS = 6;
    private static final int MAX_ROWS = 30;
    private static final int MAX_RULES = 8;
    private static final int MAX_QUESTIONS = 8;
    private static final int MAX_CONDITIONS = 6;
    private static final int MAX_LINES = 3;
    private static final int MAX_ACTS = 4;
    private static final int MAX_STEPS = 6;
    private static final int MAX_UNDOS = 5;
    private static final int MOST_TYPED = 9999;
    private static final int MOST_RECKONED = 999999;

    /** A source from this number on is a question. */
    private static final int FIRST_QUESTION = 10;
    private static final int GROUP_COLUMNS = 5;
    /** One row of the first table, and one more for each question that joins. */
    private static final int MAX_PARTS = MAX_QUESTIONS + 1;
    private static final int WIDEST = MAX_PARTS * MAX_COLUMNS;
    /** Stands for a cell of a cross question without answers; no sum comes near it. */
    private static final int NO_ANSWER = -1000000000;

    private final Base base;
    private final Asker asker;
    private final Reason told;
    private final int[] draft;
    private final Act[] acts;
    private int actCount;
    /** The rows ahead of the acts that can be taken back, and one more for the act that is being done. */
    private final Rows[] ahead;
    private int aheadCount;
    private int formTable;
    private int formRow;
    private int formSerial;

    public ClubBase() {
        base = new Base();
        asker = new Asker(base);
        told = new Reason();
        draft = new int[MAX_COLUMNS];
        Arrays.fill(draft, BLANK);
        acts = new Act[MAX_ACTS];
        for (int act = 0; act < MAX_ACTS; act++) {
            acts[act] = new Act();
        }
        ahead = new Rows[MAX_UNDOS + 1];
        for (int place = 0; place < ahead.length; place++) {
            ahead[place] = new Rows();
        }
        formTable = -1;
    }

    // ---- design

    public int addTable() throws IllegalStateException {
        if (base.tableCount >= MAX_TABLES) {
            throw new IllegalStateException();
        }
        forgetActs();
        return base.tableCount++;
    }

    public int addNumber(int table, int least, int most) throws IndexOutOfBoundsException, IllegalArgumentException, IllegalStateException {
        wantTable(table);
        wantRange(least, most);
        wantColumnPlace(table);
        forgetActs();
        return base.makeNumber(table, least, most);
    }

    public int addLink(int table, int target, int removal) throws IndexOutOfBoundsException, IllegalArgumentException, IllegalStateException {
        wantTable(table);
        wantTable(target);
        wantRemoval(removal);
        wantColumnPlace(table);
        forgetActs();
        return base.makeLink(table, target, removal);
    }

    public int addReckoned(int table, int formula, int one, int two, int other) throws IndexOutOfBoundsException, IllegalArgumentException, IllegalStateException {
        wantTable(table);
        wantFormula(table, formula, one, two, other);
        wantColumnPlace(table);
        forgetActs();
        return base.makeReckoned(table, formula, one, two, other);
    }

    public boolean reckonAnew(int table, int column, int formula, int one, int two, int other) throws IndexOutOfBoundsException, IllegalArgumentException {
        wantColumn(table, column);
        wantFormula(table, formula, one, two, other);
        if (base.column(table, column).kind != Column.RECKONED) {
            throw new IllegalArgumentException();
        }
        return tell(base.changeFormula(table, column, formula, one, two, other));
    }

    public boolean need(int table, int column, boolean is) throws IndexOutOfBoundsException, IllegalArgumentException {
        wantColumn(table, column);
        wantStored(table, column);
        return tell(base.changeNeeded(table, column, is));
    }

    public boolean single(int table, int column, boolean is) throws IndexOutOfBoundsException, IllegalArgumentException {
        wantColumn(table, column);
        wantStored(table, column);
        return tell(base.changeSingle(table, column, is));
    }

    public int wouldLose(int table, int column, int least, int most) throws IndexOutOfBoundsException, IllegalArgumentException {
        wantColumn(table, column);
        wantNumberColumn(table, column);
        wantRange(least, most);
        return base.countOutside(table, column, least, most);
    }

    public boolean narrow(int table, int column, int least, int most) throws IndexOutOfBoundsException, IllegalArgumentException {
        wantColumn(table, column);
        wantNumberColumn(table, column);
        wantRange(least, most);
        return tell(base.changeRange(table, column, least, most));
    }

    public int wouldLoseAll(int table, int column) throws IndexOutOfBoundsException {
        wantColumn(table, column);
        return base.countFilled(table, column);
    }

    public boolean drop(int table, int column) throws IndexOutOfBoundsException, IllegalArgumentException {
        wantColumn(table, column);
        wantNotDropped(table, column);
        if (base.isUsed(table, column) || asker.isUsed(table, column)) {
            return tell(base.refuse(USED, table, column));
        }
        base.dropColumn(table, column);
        return tell(true);
    }

    public int setRemoval(int table, int column, int removal) throws IndexOutOfBoundsException, IllegalArgumentException {
        wantColumn(table, column);
        wantLink(table, column);
        wantRemoval(removal);
        forgetActs();
        Column link = base.column(table, column);
        int before = link.removal;
        link.removal = removal;
        return before;
    }

    public int addRule(int table, int one, int relation, int other, int more) throws IndexOutOfBoundsException, IllegalArgumentException, IllegalStateException {
        wantColumn(table, one);
        wantColumn(table, other);
        if (relation < AT_MOST || relation > BOTH || more < -MOST_TYPED || more > MOST_TYPED) {
            throw new IllegalArgumentException();
        }
        wantNotDropped(table, one);
        wantNotDropped(table, other);
        if (base.ruleCount >= MAX_RULES) {
            throw new IllegalStateException();
        }
        int rule = base.makeRule(table, one, relation, other, more);
        tell(rule >= 0);
        return rule;
    }

    public void dropRule(int rule) throws IndexOutOfBoundsException {
        if (!base.isRule(rule)) {
            throw new IndexOutOfBoundsException();
        }
        forgetActs();
        base.rule(rule).dropped = true;
    }

    public int order(int place) throws IndexOutOfBoundsException {
        if (place < 0 || place >= base.orderCount || place >= base.orderOf.length) {
            throw new IndexOutOfBoundsException();
        }
        return base.orderOf[place];
    }

    // ---- refusals

    public int reason() {
        return told.kind;
    }

    public int whereTable() {
        return told.table;
    }

    public int whereRow() {
        return told.row;
    }

    public int whereColumn() {
        return told.column;
    }

    public int broken() {
        return base.countBroken(true);
    }

    // ---- rows

    public int type(int column, int value) throws IllegalArgumentException {
        if (column < 0 || column >= draft.length) {
            throw new IllegalArgumentException();
        }
        wantValue(value);
        int before = draft[column];
        draft[column] = value;
        return before;
    }

    public int clearDraft() {
        int filled = 0;
        for (int column = 0; column < draft.length; column++) {
            if (draft[column] != BLANK) {
                filled++;
            }
        }
        Arrays.fill(draft, BLANK);
        return filled;
    }

    public int enter(int table) throws IndexOutOfBoundsException, IllegalStateException {
        wantTable(table);
        if (base.rows.isFull(table)) {
            throw new IllegalStateException();
        }
        return tellEntry(base.enterRow(table, draft, -1, BLANK));
    }

    public boolean put(int table, int row, int column, int value) throws IndexOutOfBoundsException, IllegalArgumentException {
        wantRow(table, row);
        wantColumn(table, column);
        wantStored(table, column);
        wantValue(value);
        return tell(base.putThrough(10 * table + column, row, value));
    }

    public boolean remove(int table, int row) throws IndexOutOfBoundsException {
        wantRow(table, row);
        return tell(base.takeOut(table, row));
    }

    public void openForm(int table, int row) throws IndexOutOfBoundsException {
        wantRow(table, row);
        formTable = table;
        formRow = row;
        formSerial = base.rows.serialOf(table, row);
    }

    public int enterInside(int table, int column) throws IndexOutOfBoundsException, IllegalStateException, IllegalArgumentException {
        wantColumn(table, column);
        if (!isFormGood() || base.rows.isFull(table)) {
            throw new IllegalStateException();
        }
        wantLinkTo(table, column, formTable);
        return tellEntry(base.enterRow(table, draft, column, formRow));
    }

    public int choice(int table, int row, int column, int from) throws IndexOutOfBoundsException, IllegalArgumentException {
        wantRow(table, row);
        wantColumn(table, column);
        wantLink(table, column);
        if (from < 0) {
            throw new IllegalArgumentException();
        }
        int target = base.column(table, column).target;
        for (int led = from; led < MAX_ROWS; led++) {
            if (base.rows.has(target, led) && base.couldPut(10 * table + column, row, led)) {
                return led;
            }
        }
        return -1;
    }

    public int cell(int table, int row, int column) throws IndexOutOfBoundsException {
        wantRow(table, row);
        wantColumn(table, column);
        return base.rows.get(table, row, column);
    }

    public boolean isThere(int table, int row) throws IndexOutOfBoundsException {
        wantTable(table);
        return base.rows.has(table, row);
    }

    public int rows(int table) throws IndexOutOfBoundsException {
        wantTable(table);
        return base.rows.madeIn(table);
    }

    // ---- questions; a source is the number of a table, or 10 plus the number of a question

    public int ask(int source, int join) throws IndexOutOfBoundsException, IllegalArgumentException, IllegalStateException {
        wantSource(source);
        if (join != -1) {
            wantSourceColumn(source, join);
        }
        wantNoCross(source);
        if (join != -1) {
            wantLinkCode(asker.originOf(source, join));
        }
        wantQuestionPlace();
        return asker.makePlain(source, join);
    }

    public int condition(int question, int line, int column, int relation, int value) throws IndexOutOfBoundsException, IllegalArgumentException, IllegalStateException {
        wantQuestionColumn(question, column);
        wantPlain(question);
        if (line < 0 || line >= MAX_LINES || relation < IS || relation > EMPTY || value < -MOST_RECKONED || value > MOST_RECKONED) {
            throw new IllegalArgumentException();
        }
        Question asked = asker.question(question);
        if (asked.conditionCount >= MAX_CONDITIONS) {
            throw new IllegalStateException();
        }
        return asked.addCondition(line, column, relation, value);
    }

    public int askGroups(int source, int key, int value) throws IndexOutOfBoundsException, IllegalArgumentException, IllegalStateException {
        wantSource(source);
        wantSourceColumn(source, key);
        wantSourceColumn(source, value);
        wantNoCross(source);
        wantQuestionPlace();
        return asker.makeGathered(Question.GROUPED, source, key, -1, value);
    }

    public int askCross(int source, int first, int second, int value) throws IndexOutOfBoundsException, IllegalArgumentException, IllegalStateException {
        wantSource(source);
        wantSourceColumn(source, first);
        wantSourceColumn(source, second);
        wantSourceColumn(source, value);
        wantNoCross(source);
        wantQuestionPlace();
        return asker.makeGathered(Question.CROSS, source, first, second, value);
    }

    public int answers(int question) throws IndexOutOfBoundsException {
        wantQuestion(question);
        return asker.find(question);
    }

    public int columns(int question) throws IndexOutOfBoundsException {
        wantQuestion(question);
        return asker.widthOf(question);
    }

    public int answer(int question, int answer, int column) throws IndexOutOfBoundsException {
        wantAnswer(question, answer, column);
        return asker.get(answer, column);
    }

    public int keyOf(int question, int column) throws IndexOutOfBoundsException, IllegalArgumentException {
        wantQuestionColumn(question, column);
        if (column == 0) {
            throw new IndexOutOfBoundsException();
        }
        if (asker.question(question).kind != Question.CROSS) {
            throw new IllegalArgumentException();
        }
        asker.find(question);
        return asker.secondKey(column - 1);
    }

    public int target(int question, int answer, int column) throws IndexOutOfBoundsException {
        wantAnswer(question, answer, column);
        int origin = asker.question(question).originOf(column);
        if (!base.isStored(origin)) {
            return -1;
        }
        return 1000 * (origin / 10) + 10 * asker.rowOf(question, answer, column) + origin % 10;
    }

    public boolean write(int question, int answer, int column, int value) throws IndexOutOfBoundsException, IllegalArgumentException {
        wantAnswer(question, answer, column);
        wantValue(value);
        int origin = asker.question(question).originOf(column);
        return tell(base.putThrough(origin, asker.rowOf(question, answer, column), value));
    }

    // ---- acts

    public int addAct() throws IllegalStateException {
        if (actCount >= MAX_ACTS) {
            throw new IllegalStateException();
        }
        return actCount++;
    }

    public int stepPut(int act, int question, int column, int value) throws IndexOutOfBoundsException, IllegalArgumentException, IllegalStateException {
        wantAct(act);
        wantQuestionColumn(question, column);
        wantPlain(question);
        wantValue(value);
        wantStepPlace(act);
        return acts[act].addStep(Step.PUTS, question, column, value);
    }

    public int stepAdd(int act, int table) throws IndexOutOfBoundsException, IllegalStateException {
        wantAct(act);
        wantTable(table);
        wantStepPlace(act);
        acts[act].keepDraft(draft);
        return acts[act].addStep(Step.ADDS, -1, -1, table);
    }

    public int stepRemove(int act, int question, int column) throws IndexOutOfBoundsException, IllegalArgumentException, IllegalStateException {
        wantAct(act);
        wantQuestionColumn(question, column);
        wantPlain(question);
        wantStepPlace(act);
        return acts[act].addStep(Step.REMOVES, question, column, 0);
    }

    public int stepIf(int act, int question, int skip) throws IndexOutOfBoundsException, IllegalArgumentException, IllegalStateException {
        wantAct(act);
        wantQuestion(question);
        if (skip < 1 || skip >= MAX_STEPS) {
            throw new IllegalArgumentException();
        }
        wantStepPlace(act);
        return acts[act].addStep(Step.SKIPS, question, -1, skip);
    }

    public boolean run(int act) throws IndexOutOfBoundsException {
        wantAct(act);
        keepAhead();
        Act done = acts[act];
        for (int place = 0; place < done.stepCount && place < MAX_STEPS; place++) {
            Step step = done.steps[place];
            boolean good = true;
            switch (step.kind) {
                case Step.PUTS:
                    good = putInAll(step);
                    break;
                case Step.ADDS:
                    good = addFrom(step);
                    break;
                case Step.REMOVES:
                    good = removeAll(step);
                    break;
                default:
                    if (asker.find(step.question) == 0) {
                        place += step.value;
                    }
                    break;
            }
            if (!good) {
                return endRun(false);
            }
        }
        return endRun(true);
    }

    public int undoable() {
        return aheadCount;
    }

    public int undo() throws IllegalStateException {
        if (aheadCount < 1 || aheadCount > MAX_UNDOS) {
            throw new IllegalStateException();
        }
        aheadCount--;
        base.rows.copyFrom(ahead[aheadCount]);
        return aheadCount;
    }

    // ---- outcomes

    /** What is taken back has to be all of what came last, so another change ends the taking back. */
    private void forgetActs() {
        aheadCount = 0;
    }

    private boolean tell(boolean good) {
        if (good) {
            told.clear();
            forgetActs();
        } else {
            told.copyFrom(base.found);
        }
        return good;
    }

    private int tellEntry(int row) {
        if (tell(row >= 0)) {
            Arrays.fill(draft, BLANK);
        }
        return row;
    }

    private boolean isFormGood() {
        return base.hasTable(formTable) && base.rows.has(formTable, formRow) && base.rows.serialOf(formTable, formRow) == formSerial;
    }

    // ---- steps; the answers that were found last stay while rows change

    private boolean putInAll(Step step) {
        int count = asker.find(step.question);
        int origin = asker.question(step.question).originOf(step.column);
        for (int answer = 0; answer < count; answer++) {
            if (!base.putThrough(origin, asker.rowOf(step.question, answer, step.column), step.value)) {
                return false;
            }
        }
        return true;
    }

    private boolean addFrom(Step step) {
        if (base.rows.isFull(step.value)) {
            return base.refuse(FULL, step.value, -1);
        }
        return base.enterRow(step.value, step.draft, -1, BLANK) >= 0;
    }

    private boolean removeAll(Step step) {
        int count = asker.find(step.question);
        int origin = asker.question(step.question).originOf(step.column);
        if (origin < 0) {
            return count == 0 || base.refuse(UNWRITABLE, -1, -1);
        }
        for (int answer = 0; answer < count; answer++) {
            int row = asker.rowOf(step.question, answer, step.column);
            if (base.rows.has(origin / 10, row) && !base.takeOut(origin / 10, row)) {
                return false;
            }
        }
        return true;
    }

    private void keepAhead() {
        if (aheadCount >= 0 && aheadCount < ahead.length) {
            ahead[aheadCount].copyFrom(base.rows);
        }
    }

    private boolean endRun(boolean good) {
        if (aheadCount < 0 || aheadCount >= ahead.length) {
            return false;
        }
        if (!good) {
            base.rows.copyFrom(ahead[aheadCount]);
            told.copyFrom(base.found);
            return false;
        }
        told.clear();
        if (aheadCount < MAX_UNDOS) {
            aheadCount++;
        } else {
            forgetOldest();
        }
        return true;
    }

    private void forgetOldest() {
        Rows oldest = ahead[0];
        for (int place = 1; place < ahead.length; place++) {
            ahead[place - 1] = ahead[place];
        }
        ahead[ahead.length - 1] = oldest;
    }

    // ---- tests of arguments; the caller puts them in the order of the document

    private void wantTable(int table) {
        if (!base.hasTable(table)) {
            throw new IndexOutOfBoundsException();
        }
    }

    private void wantColumn(int table, int column) {
        if (!base.hasColumn(table, column)) {
            throw new IndexOutOfBoundsException();
        }
    }

    private void wantRow(int table, int row) {
        if (!base.hasTable(table) || !base.rows.has(table, row)) {
            throw new IndexOutOfBoundsException();
        }
    }

    private void wantColumnPlace(int table) {
        if (base.widthOf(table) >= MAX_COLUMNS) {
            throw new IllegalStateException();
        }
    }

    private void wantRange(int least, int most) {
        if (least < -MOST_TYPED || most > MOST_TYPED || least > most) {
            throw new IllegalArgumentException();
        }
    }

    private void wantValue(int value) {
        if (value != BLANK && (value < -MOST_TYPED || value > MOST_TYPED)) {
            throw new IllegalArgumentException();
        }
    }

    private void wantRemoval(int removal) {
        if (removal < FORBIDS || removal > BLANKS) {
            throw new IllegalArgumentException();
        }
    }

    private void wantNotDropped(int table, int column) {
        if (base.column(table, column).kind == Column.DROPPED) {
            throw new IllegalArgumentException();
        }
    }

    private void wantStored(int table, int column) {
        if (!base.column(table, column).isStored()) {
            throw new IllegalArgumentException();
        }
    }

    private void wantNumberColumn(int table, int column) {
        if (base.column(table, column).kind != Column.NUMBER) {
            throw new IllegalArgumentException();
        }
    }

    private void wantLink(int table, int column) {
        if (base.column(table, column).kind != Column.LEADING) {
            throw new IllegalArgumentException();
        }
    }

    private void wantLinkTo(int table, int column, int target) {
        wantLink(table, column);
        if (base.column(table, column).target != target) {
            throw new IllegalArgumentException();
        }
    }

    private void wantLinkCode(int origin) {
        if (origin < 0) {
            throw new IllegalArgumentException();
        }
        wantLink(origin / 10, origin % 10);
    }

    private void wantFormula(int table, int formula, int one, int two, int other) {
        switch (formula) {
            case ADD:
            case TIMES:
                wantPair(table, one, two);
                break;
            case LOOK:
                wantLook(table, one, two);
                break;
            case TOTAL:
            case COUNT:
                wantGathering(table, formula, one, two, other);
                break;
            default:
                throw new IllegalArgumentException();
        }
    }

    private void wantPair(int table, int one, int two) {
        wantColumn(table, one);
        wantColumn(table, two);
        wantNotDropped(table, one);
        wantNotDropped(table, two);
    }

    private void wantLook(int table, int one, int two) {
        wantColumn(table, one);
        wantLink(table, one);
        int target = base.column(table, one).target;
        wantColumn(target, two);
        wantNotDropped(target, two);
    }

    private void wantGathering(int table, int formula, int one, int two, int other) {
        wantColumn(other, one);
        if (formula == TOTAL) {
            wantColumn(other, two);
        }
        wantLinkTo(other, one, table);
        if (formula == TOTAL) {
            wantNotDropped(other, two);
        }
    }

    private void wantSource(int source) {
        if (source >= FIRST_QUESTION) {
            wantQuestion(source - FIRST_QUESTION);
        } else {
            wantTable(source);
        }
    }

    private void wantSourceColumn(int source, int column) {
        int width = source >= FIRST_QUESTION ? asker.widthOf(source - FIRST_QUESTION) : base.widthOf(source);
        if (column < 0 || column >= width) {
            throw new IndexOutOfBoundsException();
        }
    }

    private void wantNoCross(int source) {
        if (source >= FIRST_QUESTION && asker.question(source - FIRST_QUESTION).kind == Question.CROSS) {
            throw new IllegalArgumentException();
        }
    }

    private void wantQuestion(int question) {
        if (!asker.has(question)) {
            throw new IndexOutOfBoundsException();
        }
    }

    private void wantQuestionColumn(int question, int column) {
        wantQuestion(question);
        if (column < 0 || column >= asker.widthOf(question)) {
            throw new IndexOutOfBoundsException();
        }
    }

    private void wantAnswer(int question, int answer, int column) {
        wantQuestion(question);
        if (answer < 0 || answer >= asker.find(question) || column < 0 || column >= asker.width) {
            throw new IndexOutOfBoundsException();
        }
    }

    private void wantPlain(int question) {
        if (asker.question(question).kind != Question.PLAIN) {
            throw new IllegalArgumentException();
        }
    }

    private void wantQuestionPlace() {
        if (asker.count >= MAX_QUESTIONS) {
            throw new IllegalStateException();
        }
    }

    private void wantAct(int act) {
        if (act < 0 || act >= actCount || act >= acts.length) {
            throw new IndexOutOfBoundsException();
        }
    }

    private void wantStepPlace(int act) {
        if (acts[act].stepCount >= MAX_STEPS) {
            throw new IllegalStateException();
        }
    }

    // ---- cells

    private static int limited(long number) {
        return number < -MOST_RECKONED || number > MOST_RECKONED ? BLANK : (int) number;
    }

    private static int orZero(int cell) {
        return cell == BLANK ? 0 : cell;
    }

    /** Why a call was refused, and where. */
    private static final class Reason {
        int kind;
        int table = -1;
        int row = -1;
        int column = -1;

        void clear() {
            set(0, -1, -1, -1);
        }

        void set(int newKind, int newTable, int newRow, int newColumn) {
            kind = 0;
            setFirst(newKind, newTable, newRow, newColumn);
        }

        /** Sets the reason if there is none so far. */
        void setFirst(int newKind, int newTable, int newRow, int newColumn) {
            if (kind == 0) {
                kind = newKind;
                table = newTable;
                row = newRow;
                column = newColumn;
            }
        }

        void copyFrom(Reason other) {
            set(other.kind, other.table, other.row, other.column);
        }
    }

    private static final class Column {
        static final int DROPPED = 0;
        static final int NUMBER = 1;
        static final int LEADING = 2;
        static final int RECKONED = 3;

        int kind;
        int least;
        int most;
        int target;
        int removal;
        boolean needed;
        boolean single;
        int formula;
        int one;
        int two;
        int other;

        boolean isStored() {
            return kind == NUMBER || kind == LEADING;
        }

        void setFormula(int newFormula, int newOne, int newTwo, int newOther) {
            formula = newFormula;
            one = newOne;
            two = newTwo;
            other = newOther;
        }
    }

    private static final class Rule {
        int table;
        int one;
        int relation;
        int other;
        int more;
        boolean dropped;

        boolean isFor(int askedTable, int column) {
            return !dropped && table == askedTable && (one == column || other == column);
        }

        boolean holds(int left, int right) {
            if (relation == BOTH) {
                return (left == BLANK) == (right == BLANK);
            }
            if (left == BLANK || right == BLANK) {
                return true;
            }
            if (relation == AT_MOST) {
                return left <= right + more;
            }
            return (left == right + more) == (relation == ALIKE);
        }
    }

    /** The rows of all tables in one block, so that they are kept and put back by copying. */
    private static final class Rows {
        private final int[] made = new int[MAX_TABLES];
        /** Which entry made a row; 0 if the row is not there. A number of a row can be used again, this one not. */
        private final int[] serial = new int[MAX_TABLES * MAX_ROWS];
        private final int[] cells = new int[MAX_TABLES * MAX_ROWS * MAX_COLUMNS];

        Rows() {
            Arrays.fill(cells, BLANK);
        }

        void copyFrom(Rows other) {
            System.arraycopy(other.made, 0, made, 0, MAX_TABLES);
            System.arraycopy(other.serial, 0, serial, 0, MAX_TABLES * MAX_ROWS);
            System.arraycopy(other.cells, 0, cells, 0, MAX_TABLES * MAX_ROWS * MAX_COLUMNS);
        }

        boolean has(int table, int row) {
            return table >= 0 && table < MAX_TABLES && row >= 0 && row < MAX_ROWS && serial[table * MAX_ROWS + row] != 0;
        }

        int serialOf(int table, int row) {
            if (table < 0 || table >= MAX_TABLES || row < 0 || row >= MAX_ROWS) {
                return 0;
            }
            return serial[table * MAX_ROWS + row];
        }

        void setSerial(int table, int row, int number) {
            if (table >= 0 && table < MAX_TABLES && row >= 0 && row < MAX_ROWS) {
                serial[table * MAX_ROWS + row] = number;
            }
        }

        int get(int table, int row, int column) {
            if (table < 0 || table >= MAX_TABLES || row < 0 || row >= MAX_ROWS || column < 0 || column >= MAX_COLUMNS) {
                return BLANK;
            }
            return cells[(table * MAX_ROWS + row) * MAX_COLUMNS + column];
        }

        void set(int table, int row, int column, int value) {
            if (table >= 0 && table < MAX_TABLES && row >= 0 && row < MAX_ROWS && column >= 0 && column < MAX_COLUMNS) {
                cells[(table * MAX_ROWS + row) * MAX_COLUMNS + column] = value;
            }
        }

        int madeIn(int table) {
            return table < 0 || table >= MAX_TABLES ? 0 : made[table];
        }

        boolean isFull(int table) {
            return madeIn(table) >= MAX_ROWS;
        }

        /** Makes the next row; the caller sees to it that the table is not full. */
        int make(int table, int number) {
            int row = madeIn(table);
            if (table >= 0 && table < MAX_TABLES && row < MAX_ROWS) {
                made[table] = row + 1;
                serial[table * MAX_ROWS + row] = number;
            }
            return row;
        }

        /** Tells whether a lower row that is there has the same number in the column. */
        boolean repeats(int table, int row, int column) {
            if (table < 0 || table >= MAX_TABLES || row < 0 || row >= MAX_ROWS || column < 0 || column >= MAX_COLUMNS) {
                return false;
            }
            int first = table * MAX_ROWS;
            int value = cells[(first + row) * MAX_COLUMNS + column];
            for (int lower = first; lower < first + row; lower++) {
                if (serial[lower] != 0 && cells[lower * MAX_COLUMNS + column] == value) {
                    return true;
                }
            }
            return false;
        }
    }

    /** The design and the rows; each change that can be refused leaves all as it was if it is. */
    private static final class Base {
        private final Column[] columns = new Column[MAX_TABLES * MAX_COLUMNS];
        private final Column noColumn = new Column();
        private final int[] widths = new int[MAX_TABLES];
        int tableCount;
        private final Rule[] rules = new Rule[MAX_RULES];
        private final Rule noRule = new Rule();
        int ruleCount;
        final int[] orderOf = new int[MAX_TABLES * MAX_COLUMNS];
        int orderCount;
        final Rows rows = new Rows();
        private final Rows before = new Rows();
        /** What the last refusal, or the last count of broken things, found first. */
        final Reason found = new Reason();
        private int lastSerial;
        private final boolean[] come = new boolean[MAX_TABLES * MAX_COLUMNS];
        private final boolean[] going = new boolean[MAX_TABLES * MAX_ROWS];
        private final int[] sums = new int[MAX_ROWS];

        Base() {
            for (int place = 0; place < columns.length; place++) {
                columns[place] = new Column();
            }
            for (int rule = 0; rule < rules.length; rule++) {
                rules[rule] = new Rule();
            }
        }

        boolean hasTable(int table) {
            return table >= 0 && table < tableCount;
        }

        int widthOf(int table) {
            return table < 0 || table >= MAX_TABLES ? 0 : widths[table];
        }

        boolean hasColumn(int table, int column) {
            return hasTable(table) && column >= 0 && column < widthOf(table);
        }

        Column column(int table, int column) {
            if (table < 0 || table >= MAX_TABLES || column < 0 || column >= MAX_COLUMNS) {
                return noColumn;
            }
            return columns[table * MAX_COLUMNS + column];
        }

        boolean isStored(int origin) {
            return origin >= 0 && column(origin / 10, origin % 10).isStored();
        }

        boolean isRule(int rule) {
            return rule >= 0 && rule < ruleCount && rule < MAX_RULES && !rules[rule].dropped;
        }

        Rule rule(int rule) {
            return rule < 0 || rule >= MAX_RULES ? noRule : rules[rule];
        }

        boolean refuse(int kind, int table, int column) {
            found.set(kind, table, -1, column);
            return false;
        }

        // ---- changes of the design

        private int makeColumn(int table, int kind) {
            int number = widthOf(table);
            if (table >= 0 && table < MAX_TABLES && number < MAX_COLUMNS) {
                widths[table] = number + 1;
                columns[table * MAX_COLUMNS + number].kind = kind;
            }
            return number;
        }

        int makeNumber(int table, int least, int most) {
            int number = makeColumn(table, Column.NUMBER);
            Column column = column(table, number);
            column.least = least;
            column.most = most;
            return number;
        }

        int makeLink(int table, int target, int removal) {
            int number = makeColumn(table, Column.LEADING);
            Column column = column(table, number);
            column.target = target;
            column.removal = removal;
            return number;
        }

        int makeReckoned(int table, int formula, int one, int two, int other) {
            int number = makeColumn(table, Column.RECKONED);
            column(table, number).setFormula(formula, one, two, other);
            putInOrder();
            reckon();
            return number;
        }

        boolean changeFormula(int table, int number, int formula, int one, int two, int other) {
            Column column = column(table, number);
            int oldFormula = column.formula;
            int oldOne = column.one;
            int oldTwo = column.two;
            int oldOther = column.other;
            keep();
            column.setFormula(formula, one, two, other);
            boolean good = putInOrder() ? settle() : refuse(CIRCLE, table, number);
            if (!good) {
                column.setFormula(oldFormula, oldOne, oldTwo, oldOther);
                putInOrder();
            }
            return good;
        }

        boolean changeNeeded(int table, int number, boolean is) {
            Column column = column(table, number);
            boolean was = column.needed;
            keep();
            column.needed = is;
            boolean good = settle();
            if (!good) {
                column.needed = was;
            }
            return good;
        }

        boolean changeSingle(int table, int number, boolean is) {
            Column column = column(table, number);
            boolean was = column.single;
            keep();
            column.single = is;
            boolean good = settle();
            if (!good) {
                column.single = was;
            }
            return good;
        }

        private boolean isOutside(int value, int least, int most) {
            return value != BLANK && (value < least || value > most);
        }

        int countOutside(int table, int column, int least, int most) {
            int count = 0;
            for (int row = 0; row < MAX_ROWS; row++) {
                if (rows.has(table, row) && isOutside(rows.get(table, row, column), least, most)) {
                    count++;
                }
            }
            return count;
        }

        int countFilled(int table, int column) {
            int count = 0;
            for (int row = 0; row < MAX_ROWS; row++) {
                if (rows.has(table, row) && rows.get(table, row, column) != BLANK) {
                    count++;
                }
            }
            return count;
        }

        boolean changeRange(int table, int number, int least, int most) {
            Column column = column(table, number);
            int oldLeast = column.least;
            int oldMost = column.most;
            keep();
            column.least = least;
            column.most = most;
            for (int row = 0; row < MAX_ROWS; row++) {
                if (isOutside(rows.get(table, row, number), least, most)) {
                    rows.set(table, row, number, BLANK);
                }
            }
            boolean good = settle();
            if (!good) {
                column.least = oldLeast;
                column.most = oldMost;
            }
            return good;
        }

        void dropColumn(int table, int number) {
            Column column = column(table, number);
            column.kind = Column.DROPPED;
            column.needed = false;
            column.single = false;
            for (int row = 0; row < MAX_ROWS; row++) {
                rows.set(table, row, number, BLANK);
            }
            putInOrder();
        }

        int makeRule(int table, int one, int relation, int other, int more) {
            int number = ruleCount;
            Rule rule = rule(number);
            rule.table = table;
            rule.one = one;
            rule.relation = relation;
            rule.other = other;
            rule.more = more;
            keep();
            ruleCount++;
            if (!settle()) {
                ruleCount--;
                return -1;
            }
            return number;
        }

        boolean isUsed(int table, int number) {
            for (int rule = 0; rule < ruleCount && rule < MAX_RULES; rule++) {
                if (rules[rule].isFor(table, number)) {
                    return true;
                }
            }
            for (int place = 0; place < columns.length; place++) {
                if (uses(place, table, number)) {
                    return true;
                }
            }
            return false;
        }

        private boolean uses(int place, int table, int number) {
            Column column = column(place / MAX_COLUMNS, place % MAX_COLUMNS);
            if (column.kind != Column.RECKONED) {
                return false;
            }
            int owner = place / MAX_COLUMNS;
            if (tableOfOne(column, owner) == table && column.one == number) {
                return true;
            }
            return column.formula != COUNT && tableOfTwo(column, owner) == table && column.two == number;
        }

        private int tableOfOne(Column column, int owner) {
            return column.formula == TOTAL || column.formula == COUNT ? column.other : owner;
        }

        private int tableOfTwo(Column column, int owner) {
            return column.formula == LOOK ? column(owner, column.one).target : tableOfOne(column, owner);
        }

        // ---- reckoning

        /** Finds the order of the reckoned columns; answers false if one would use itself. */
        private boolean putInOrder() {
            int reckoned = 0;
            for (int place = 0; place < columns.length; place++) {
                come[place] = false;
                if (columns[place].kind == Column.RECKONED) {
                    reckoned++;
                }
            }
            orderCount = 0;
            while (orderCount < reckoned && orderCount < orderOf.length) {
                int next = nextReady();
                if (next < 0) {
                    return false;
                }
                come[next] = true;
                orderOf[orderCount] = 10 * (next / MAX_COLUMNS) + next % MAX_COLUMNS;
                orderCount++;
            }
            return true;
        }

        private int nextReady() {
            for (int place = 0; place < columns.length; place++) {
                if (columns[place].kind == Column.RECKONED && !come[place] && isReady(columns[place], place / MAX_COLUMNS)) {
                    return place;
                }
            }
            return -1;
        }

        private boolean isReady(Column column, int owner) {
            if (!isKnown(tableOfOne(column, owner), column.one)) {
                return false;
            }
            return column.formula == COUNT || isKnown(tableOfTwo(column, owner), column.two);
        }

        private boolean isKnown(int table, int number) {
            int place = table * MAX_COLUMNS + number;
            return column(table, number).kind != Column.RECKONED || place < 0 || place >= come.length || come[place];
        }

        private void reckon() {
            for (int place = 0; place < orderCount && place < orderOf.length; place++) {
                int table = orderOf[place] / 10;
                int number = orderOf[place] % 10;
                Column column = column(table, number);
                if (column.formula == TOTAL || column.formula == COUNT) {
                    reckonSums(table, number, column);
                    continue;
                }
                for (int row = 0; row < MAX_ROWS; row++) {
                    if (rows.has(table, row)) {
                        rows.set(table, row, number, reckonCell(table, row, column));
                    }
                }
            }
        }

        private int reckonCell(int table, int row, Column column) {
            int one = rows.get(table, row, column.one);
            if (column.formula == LOOK) {
                int target = column(table, column.one).target;
                return rows.has(target, one) ? rows.get(target, one, column.two) : BLANK;
            }
            int two = rows.get(table, row, column.two);
            if (one == BLANK || two == BLANK) {
                return BLANK;
            }
            return limited(column.formula == ADD ? (long) one + two : (long) one * two);
        }

        private void reckonSums(int table, int number, Column column) {
            Arrays.fill(sums, 0);
            for (int row = 0; row < MAX_ROWS; row++) {
                int led = rows.get(column.other, row, column.one);
                if (rows.has(column.other, row) && led >= 0 && led < sums.length) {
                    sums[led] += column.formula == COUNT ? 1 : orZero(rows.get(column.other, row, column.two));
                }
            }
            for (int row = 0; row < sums.length; row++) {
                if (rows.has(table, row)) {
                    rows.set(table, row, number, limited(sums[row]));
                }
            }
        }

        // ---- what is broken

        /** Counts what is broken, up to the first row that has any or in all rows; the first thing is found then. */
        int countBroken(boolean inAll) {
            int count = 0;
            found.clear();
            for (int table = 0; table < tableCount; table++) {
                for (int row = 0; row < MAX_ROWS && (inAll || count == 0); row++) {
                    if (rows.has(table, row)) {
                        for (int number = 0; number < widthOf(table); number++) {
                            count += brokenInCell(table, row, number);
                        }
                        count += brokenRules(table, row);
                    }
                }
            }
            return count;
        }

        private int brokenInCell(int table, int row, int number) {
            Column column = column(table, number);
            int value = rows.get(table, row, number);
            int count = 0;
            if (column.kind == Column.NUMBER && isOutside(value, column.least, column.most)) {
                found.setFirst(RANGE, table, row, number);
                count++;
            }
            if (column.needed && value == BLANK) {
                found.setFirst(NEED, table, row, number);
                count++;
            }
            if (column.single && value != BLANK && rows.repeats(table, row, number)) {
                found.setFirst(SINGLE, table, row, number);
                count++;
            }
            if (column.kind == Column.LEADING && value != BLANK && !rows.has(column.target, value)) {
                found.setFirst(LINK, table, row, number);
                count++;
            }
            return count;
        }

        private int brokenRules(int table, int row) {
            int count = 0;
            for (int number = 0; number < ruleCount && number < MAX_RULES; number++) {
                Rule rule = rules[number];
                if (!rule.dropped && rule.table == table && !rule.holds(rows.get(table, row, rule.one), rows.get(table, row, rule.other))) {
                    found.setFirst(RULE, table, row, number);
                    count++;
                }
            }
            return count;
        }

        // ---- changes of rows

        private void keep() {
            before.copyFrom(rows);
        }

        /** Ends a change that keep() began: the rows are as they were then if something would be broken. */
        private boolean settle() {
            reckon();
            if (countBroken(false) == 0) {
                return true;
            }
            rows.copyFrom(before);
            return false;
        }

        /** Enters a row with the cells given, but for the one column that has the value instead. */
        int enterRow(int table, int[] cells, int column, int value) {
            if (rows.isFull(table)) {
                return -1;
            }
            keep();
            lastSerial++;
            int row = rows.make(table, lastSerial);
            for (int number = 0; number < MAX_COLUMNS && number < cells.length; number++) {
                boolean stored = column(table, number).isStored();
                rows.set(table, row, number, !stored ? BLANK : number == column ? value : cells[number]);
            }
            return settle() ? row : -1;
        }

        /** Puts a value into the cell of a row in the column that is told by an origin, as questions have them. */
        boolean putThrough(int origin, int row, int value) {
            if (!isStored(origin)) {
                return refuse(UNWRITABLE, -1, -1);
            }
            keep();
            rows.set(origin / 10, row, origin % 10, value);
            return settle();
        }

        boolean couldPut(int origin, int row, int value) {
            boolean good = putThrough(origin, row, value);
            rows.copyFrom(before);
            return good;
        }

        boolean takeOut(int table, int row) {
            for (int place = 0; place < going.length; place++) {
                going[place] = place == table * MAX_ROWS + row;
            }
            for (int pass = 0; pass < going.length; pass++) {
                if (!spreadGoing()) {
                    break;
                }
            }
            if (isForbidden()) {
                return false;
            }
            keep();
            blankToGoing();
            for (int place = 0; place < going.length; place++) {
                if (going[place]) {
                    rows.setSerial(place / MAX_ROWS, place % MAX_ROWS, 0);
                }
            }
            return settle();
        }

        /** Lets rows that follow go, too; answers whether there were any. */
        private boolean spreadGoing() {
            boolean spread = false;
            for (int place = 0; place < going.length; place++) {
                if (!going[place] && firstToGoing(place, FOLLOWS) >= 0) {
                    going[place] = true;
                    spread = true;
                }
            }
            return spread;
        }

        private boolean isForbidden() {
            for (int place = 0; place < going.length; place++) {
                int number = going[place] ? -1 : firstToGoing(place, FORBIDS);
                if (number >= 0) {
                    found.set(FORBIDDEN, place / MAX_ROWS, place % MAX_ROWS, number);
                    return true;
                }
            }
            return false;
        }

        private void blankToGoing() {
            for (int place = 0; place < going.length; place++) {
                for (int pass = 0; pass < MAX_COLUMNS && !going[place]; pass++) {
                    int number = firstToGoing(place, BLANKS);
                    if (number < 0) {
                        break;
                    }
                    rows.set(place / MAX_ROWS, place % MAX_ROWS, number, BLANK);
                }
            }
        }

        /** Returns the lowest link that does this, and leads to a row that is going, of the row at a place; -1 if it has none. */
        private int firstToGoing(int place, int removal) {
            int table = place / MAX_ROWS;
            int row = place % MAX_ROWS;
            for (int number = 0; number < MAX_COLUMNS && rows.has(table, row); number++) {
                Column column = column(table, number);
                int led = rows.get(table, row, number);
                if (column.kind == Column.LEADING && column.removal == removal && rows.has(column.target, led)) {
                    int to = column.target * MAX_ROWS + led;
                    if (to >= 0 && to < going.length && going[to]) {
                        return number;
                    }
                }
            }
            return -1;
        }
    }

    private static final class Question {
        static final int PLAIN = 0;
        static final int GROUPED = 1;
        static final int CROSS = 2;

        int kind;
        int source;
        int join = -1;
        int joined = -1;
        int key = -1;
        int second = -1;
        int value = -1;
        /** The columns, and those of them that are not joined; a cross question has as many as its keys make. */
        int width;
        int unjoined;
        /** From how many rows an answer comes. */
        int parts;
        /** For each column 10 times the table and the column from which it comes, or -1, and by which of the rows. */
        final int[] origins = new int[WIDEST];
        final int[] partOf = new int[WIDEST];
        int conditionCount;
        final int[] lines = new int[MAX_CONDITIONS];
        final int[] asked = new int[MAX_CONDITIONS];
        final int[] relations = new int[MAX_CONDITIONS];
        final int[] numbers = new int[MAX_CONDITIONS];

        Question() {
            Arrays.fill(origins, -1);
        }

        int originOf(int column) {
            return column < 0 || column >= WIDEST ? -1 : origins[column];
        }

        void addTableColumns(int table, int count) {
            for (int column = 0; column < count && width < WIDEST; column++) {
                origins[width] = 10 * table + column;
                partOf[width] = parts;
                width++;
            }
            parts++;
        }

        void addColumnsOf(Question other) {
            width = Math.min(other.width, WIDEST);
            parts = other.parts;
            for (int column = 0; column < width; column++) {
                origins[column] = other.origins[column];
                partOf[column] = other.partOf[column];
            }
        }

        int addCondition(int line, int column, int relation, int number) {
            if (conditionCount < MAX_CONDITIONS) {
                lines[conditionCount] = line;
                asked[conditionCount] = column;
                relations[conditionCount] = relation;
                numbers[conditionCount] = number;
                conditionCount++;
            }
            return conditionCount;
        }

        boolean hasConditionOn(int origin) {
            for (int place = 0; place < conditionCount && place < MAX_CONDITIONS; place++) {
                if (originOf(asked[place]) == origin) {
                    return true;
                }
            }
            return false;
        }

        static boolean meets(int relation, int cell, int number) {
            switch (relation) {
                case IS:
                    return cell == number;
                case LEAST:
                    return cell >= number;
                case MOST:
                    return cell != BLANK && cell <= number;
                default:
                    return cell == BLANK;
            }
        }
    }

    /** The questions, and a sheet with the answers of the one that was found last. */
    private static final class Asker {
        private static final int SPARE_WIDTH = MAX_ROWS + 1;

        private final Base base;
        private final Question[] questions = new Question[MAX_QUESTIONS];
        private final Question noQuestion = new Question();
        int count;
        private int found;
        int width;
        private final int[] cells = new int[MAX_ROWS * WIDEST];
        private final int[] fromRows = new int[MAX_ROWS * MAX_PARTS];
        private final int[] keys = new int[MAX_ROWS];
        private final int[] secondKeys = new int[MAX_ROWS];
        private final int[] spare = new int[MAX_ROWS * SPARE_WIDTH];
        private final int[] chain = new int[MAX_QUESTIONS];

        Asker(Base of) {
            base = of;
            for (int question = 0; question < questions.length; question++) {
                questions[question] = new Question();
            }
        }

        boolean has(int question) {
            return question >= 0 && question < count;
        }

        Question question(int number) {
            return number < 0 || number >= MAX_QUESTIONS ? noQuestion : questions[number];
        }

        int widthOf(int number) {
            Question question = question(number);
            if (question.kind != Question.CROSS) {
                return question.width;
            }
            find(number);
            return width;
        }

        int originOf(int source, int column) {
            if (column < 0) {
                return -1;
            }
            return source < FIRST_QUESTION ? 10 * source + column : question(source - FIRST_QUESTION).originOf(column);
        }

        boolean isUsed(int table, int column) {
            int origin = 10 * table + column;
            for (int number = 0; number < count; number++) {
                Question question = question(number);
                int source = question.source;
                if (question.hasConditionOn(origin) || originOf(source, question.join) == origin || originOf(source, question.key) == origin
                        || originOf(source, question.second) == origin || originOf(source, question.value) == origin) {
                    return true;
                }
            }
            return false;
        }

        // ---- making questions

        int makePlain(int source, int join) {
            Question question = question(count);
            question.kind = Question.PLAIN;
            question.source = source;
            if (source < FIRST_QUESTION) {
                question.addTableColumns(source, base.widthOf(source));
            } else {
                question.addColumnsOf(question(source - FIRST_QUESTION));
            }
            question.unjoined = question.width;
            int origin = originOf(source, join);
            if (origin >= 0) {
                question.join = join;
                question.joined = base.column(origin / 10, origin % 10).target;
                question.addTableColumns(question.joined, base.widthOf(question.joined));
            }
            return count++;
        }

        int makeGathered(int kind, int source, int key, int second, int value) {
            Question question = question(count);
            question.kind = kind;
            question.source = source;
            question.key = key;
            question.second = second;
            question.value = value;
            question.width = GROUP_COLUMNS;
            return count++;
        }

        // ---- the sheet

        int get(int answer, int column) {
            if (answer < 0 || answer >= MAX_ROWS || column < 0 || column >= WIDEST) {
                return BLANK;
            }
            return cells[answer * WIDEST + column];
        }

        private void set(int answer, int column, int value) {
            if (answer >= 0 && answer < MAX_ROWS && column >= 0 && column < WIDEST) {
                cells[answer * WIDEST + column] = value;
            }
        }

        int rowOf(int number, int answer, int column) {
            if (answer < 0 || answer >= MAX_ROWS || column < 0 || column >= WIDEST) {
                return -1;
            }
            int part = question(number).partOf[column];
            return part < 0 || part >= MAX_PARTS ? -1 : fromRows[answer * MAX_PARTS + part];
        }

        private void setRow(int answer, int part, int row) {
            if (answer >= 0 && answer < MAX_ROWS && part >= 0 && part < MAX_PARTS) {
                fromRows[answer * MAX_PARTS + part] = row;
            }
        }

        int secondKey(int place) {
            return place < 0 || place >= MAX_ROWS ? BLANK : secondKeys[place];
        }

        // ---- finding answers, from the table on, question over question

        int find(int number) {
            int length = 0;
            int source = FIRST_QUESTION + number;
            while (length < chain.length && source >= FIRST_QUESTION) {
                chain[length] = source - FIRST_QUESTION;
                source = question(chain[length]).source;
                length++;
            }
            findRows(source);
            for (int place = length - 1; place >= 0; place--) {
                Question question = question(chain[place]);
                if (question.kind == Question.PLAIN) {
                    findPlain(question);
                } else if (question.kind == Question.GROUPED) {
                    findGroups(question);
                } else {
                    findCross(question);
                }
            }
            return found;
        }

        private void findRows(int table) {
            found = 0;
            width = base.widthOf(table);
            for (int row = 0; row < MAX_ROWS; row++) {
                if (base.rows.has(table, row)) {
                    for (int column = 0; column < width; column++) {
                        set(found, column, base.rows.get(table, row, column));
                    }
                    setRow(found, 0, row);
                    found++;
                }
            }
        }

        private void findPlain(Question question) {
            int kept = 0;
            for (int answer = 0; answer < found && answer < MAX_ROWS; answer++) {
                if (kept < answer) {
                    System.arraycopy(cells, answer * WIDEST, cells, kept * WIDEST, WIDEST);
                    System.arraycopy(fromRows, answer * MAX_PARTS, fromRows, kept * MAX_PARTS, MAX_PARTS);
                }
                if (joinTo(kept, question) && counts(kept, question)) {
                    kept++;
                }
            }
            found = kept;
            width = question.width;
        }

        private boolean joinTo(int answer, Question question) {
            if (question.join < 0) {
                return true;
            }
            int row = get(answer, question.join);
            if (!base.rows.has(question.joined, row)) {
                return false;
            }
            for (int column = question.unjoined; column < question.width; column++) {
                set(answer, column, base.rows.get(question.joined, row, column - question.unjoined));
            }
            setRow(answer, question.parts - 1, row);
            return true;
        }

        private boolean counts(int answer, Question question) {
            if (question.conditionCount == 0) {
                return true;
            }
            for (int line = 0; line < MAX_LINES; line++) {
                if (lineHolds(answer, question, line)) {
                    return true;
                }
            }
            return false;
        }

        /** A line without conditions does not hold; otherwise it would let each answer count. */
        private boolean lineHolds(int answer, Question question, int line) {
            boolean any = false;
            for (int place = 0; place < question.conditionCount && place < MAX_CONDITIONS; place++) {
                if (question.lines[place] == line) {
                    any = true;
                    if (!Question.meets(question.relations[place], get(answer, question.asked[place]), question.numbers[place])) {
                        return false;
                    }
                }
            }
            return any;
        }

        /** Gathers the different cells of a column by rising numbers; BLANK is below all. */
        private int gather(int column, int[] into) {
            int size = 0;
            for (int answer = 0; answer < found && size < into.length; answer++) {
                int value = get(answer, column);
                int place = placeIn(into, size, value);
                if (place == size) {
                    into[size] = value;
                    size++;
                } else if (into[place] != value) {
                    System.arraycopy(into, place, into, place + 1, size - place);
                    into[place] = value;
                    size++;
                }
            }
            return size;
        }

        /** Returns the first place that has no lower number. */
        private int placeIn(int[] rising, int size, int value) {
            int place = 0;
            while (place < size && place < rising.length && rising[place] < value) {
                place++;
            }
            return place;
        }

        private void findGroups(Question question) {
            int groups = gather(question.key, keys);
            for (int group = 0; group < groups && group < MAX_ROWS; group++) {
                findGroup(question, group);
            }
            takeSpare(groups, GROUP_COLUMNS);
        }

        private void findGroup(Question question, int group) {
            int size = 0;
            int sum = 0;
            int least = BLANK;
            int greatest = BLANK;
            for (int answer = 0; answer < found; answer++) {
                if (get(answer, question.key) == keys[group]) {
                    size++;
                    int value = get(answer, question.value);
                    sum += orZero(value);
                    least = least == BLANK || value != BLANK && value < least ? value : least;
                    greatest = Math.max(greatest, value);
                }
            }
            int first = group * SPARE_WIDTH;
            spare[first] = keys[group];
            spare[first + 1] = size;
            spare[first + 2] = limited(sum);
            spare[first + 3] = least;
            spare[first + 4] = greatest;
        }

        private void findCross(Question question) {
            int firsts = gather(question.key, keys);
            int seconds = gather(question.second, secondKeys);
            Arrays.fill(spare, NO_ANSWER);
            for (int answer = 0; answer < found; answer++) {
                int place = placeIn(keys, firsts, get(answer, question.key)) * SPARE_WIDTH + 1 + placeIn(secondKeys, seconds, get(answer, question.second));
                if (place < spare.length) {
                    int before = spare[place] == NO_ANSWER ? 0 : spare[place];
                    spare[place] = before + orZero(get(answer, question.value));
                }
            }
            for (int place = 0; place < spare.length; place++) {
                spare[place] = place % SPARE_WIDTH == 0 ? keys[place / SPARE_WIDTH] : limited(spare[place]);
            }
            takeSpare(firsts, seconds + 1);
        }

        private void takeSpare(int answers, int columns) {
            for (int answer = 0; answer < answers && answer < MAX_ROWS; answer++) {
                for (int column = 0; column < columns && column < SPARE_WIDTH; column++) {
                    set(answer, column, spare[answer * SPARE_WIDTH + column]);
                }
            }
            found = answers;
            width = columns;
        }
    }

    private static final class Step {
        static final int PUTS = 0;
        static final int ADDS = 1;
        static final int REMOVES = 2;
        static final int SKIPS = 3;

        int kind;
        int question;
        int column;
        /** The number that is put, the table to which a row is added, or how many steps are left out. */
        int value;
        final int[] draft = new int[MAX_COLUMNS];
    }

    private static final class Act {
        final Step[] steps = new Step[MAX_STEPS];
        int stepCount;

        Act() {
            for (int place = 0; place < steps.length; place++) {
                steps[place] = new Step();
            }
        }

        /** Keeps the draft for the step that is added next. */
        void keepDraft(int[] draft) {
            if (stepCount < MAX_STEPS) {
                System.arraycopy(draft, 0, steps[stepCount].draft, 0, MAX_COLUMNS);
            }
        }

        int addStep(int kind, int question, int column, int value) {
            if (stepCount < MAX_STEPS) {
                Step step = steps[stepCount];
                step.kind = kind;
                step.question = question;
                step.column = column;
                step.value = value;
                stepCount++;
            }
            return stepCount;
        }
    }
}
