/** Promises 43 to 50: acts that are done, or taken back, as a whole. */
public final class ActTest {
    private static final int B = ClubBase.BLANK;

    /** A filled club with questions and an act without steps. */
    private static ClubBase ready() {
        ClubBase b = Club.filled();
        Club.questions(b);
        b.addAct();
        return b;
    }

    private static void promise43AddAct() {
        ClubBase b = new ClubBase();
        for (int a = 0; a < 4; a++) Check.due("43 addAct", b.addAct(), a);
        Check.due("43 no steps", b.run(3), true);
        Check.wrong("43 four", Check.STATE, x -> { Club.all(x); x.addAct(); x.addAct(); x.addAct(); }, ClubBase::addAct);
    }

    private static void promise44StepPut() {
        ClubBase b = ready();
        b.condition(0, 0, 1, ClubBase.LEAST, 6);
        Check.due("44 steps", b.stepPut(0, 0, 1, 5), 1);
        Check.due("44 done", b.run(0), true);
        Check.due("44 first", b.cell(1, 0, 1), 5);
        Check.due("44 second, too", b.cell(1, 1, 1), 5);
        Check.due("44 not an answer", b.cell(1, 2, 1), B);
        Check.due("44 BLANK", b.stepPut(0, 1, 5, B), 2);
        Check.due("44 done again", b.run(0), true);
        Check.due("44 joined", b.cell(0, 1, 1), B);
        Check.due("44 not joined", b.cell(0, 2, 0), 3);
        Check.due("44 reckoned", b.stepPut(0, 1, 3, 1), 3);
        Check.due("44 unwritable", b.run(0), false);
        Check.reason("44 unwritable", b, ClubBase.UNWRITABLE, -1, -1, -1);
        Check.wrong("44 act", Check.INDEX, Club::all, x -> x.stepPut(1, 0, 0, 10000));
        Check.wrong("44 question", Check.INDEX, Club::all, x -> x.stepPut(0, 4, 0, 10000));
        Check.wrong("44 column", Check.INDEX, Club::all, x -> x.stepPut(0, 0, 4, 10000));
        Check.wrong("44 column of groups", Check.INDEX, Club::all, x -> x.stepPut(0, 2, 5, 0));
        Check.wrong("44 groups", Check.ARGUMENT, Club::all, x -> x.stepPut(0, 2, 0, 1));
        Check.wrong("44 cross", Check.ARGUMENT, Club::all, x -> x.stepPut(0, 3, 0, 1));
        Check.wrong("44 value", Check.ARGUMENT, Club::all, x -> x.stepPut(0, 0, 0, 10000));
        Check.wrong("44 six", Check.STATE, ActTest::six, x -> x.stepPut(0, 0, 0, 1));
        Check.wrong("44 value before six", Check.ARGUMENT, ActTest::six, x -> x.stepPut(0, 0, 0, 10000));
    }

    private static void six(ClubBase b) {
        Club.all(b);
        for (int n = 0; n < 5; n++) b.stepPut(0, 0, 1, n);
    }

    private static void promise45StepAdd() {
        ClubBase b = ready();
        b.type(0, 1);
        b.type(1, 3);
        Check.due("45 steps", b.stepAdd(0, 1), 1);
        Check.due("45 the draft stays", b.type(1, 4), 3);
        Check.due("45 done", b.run(0), true);
        Check.due("45 the draft of then", b.cell(1, 4, 1), 3);
        Check.due("45 link", b.cell(1, 4, 0), 1);
        Check.due("45 the draft of now stays", b.clearDraft(), 2);
        b.type(1, 101);
        b.stepAdd(0, 1);
        Check.due("45 refused", b.run(0), false);
        Check.reason("45 refused", b, ClubBase.RANGE, 1, 6, 1);
        Check.due("45 no row", b.rows(1), 5);
        ClubBase full = Club.small();
        full.addAct();
        for (int n = 0; n < 6; n++) full.stepAdd(0, 0);
        for (int n = 0; n < 5; n++) Check.due("45 six rows", full.run(0), true);
        Check.due("45 thirty", full.rows(0), 30);
        Check.due("45 full", full.run(0), false);
        Check.reason("45 full", full, ClubBase.FULL, 0, -1, -1);
        Check.wrong("45 act", Check.INDEX, Club::all, x -> x.stepAdd(1, 0));
        Check.wrong("45 table", Check.INDEX, Club::all, x -> x.stepAdd(0, 3));
        Check.wrong("45 table before six", Check.INDEX, ActTest::six, x -> x.stepAdd(0, -1));
        Check.wrong("45 six", Check.STATE, ActTest::six, x -> x.stepAdd(0, 0));
    }

    private static void promise46StepRemove() {
        ClubBase b = ready();
        Check.due("46 steps", b.stepRemove(0, 1, 1), 1);
        Check.due("46 done", b.run(0), true);
        for (int r = 0; r < 4; r++) Check.due("46 row " + r, b.isThere(1, r), r == 3);
        Check.due("46 courses stay", b.isThere(0, 0), true);
        b.undo();
        b.addAct();
        b.stepRemove(1, 0, 0);
        b.remove(0, 2);
        Check.due("46 all bookings", b.run(1), true);
        for (int r = 0; r < 4; r++) Check.due("46 booking " + r, b.isThere(1, r), false);
        b.undo();
        promise46Refusals(b);
    }

    private static void promise46Refusals(ClubBase b) {
        b.setRemoval(1, 0, ClubBase.FOLLOWS);
        b.addAct();
        b.stepRemove(2, 1, 6);
        Check.due("46 by a reckoned column, each row once", b.run(2), true);
        Check.due("46 joined row", b.isThere(0, 1), false);
        Check.due("46 followed", b.isThere(1, 2), false);
        b.undo();
        b.setRemoval(1, 0, ClubBase.FORBIDS);
        Check.due("46 refused", b.run(2), false);
        Check.reason("46 refused", b, ClubBase.FORBIDDEN, 1, 0, 0);
        b.ask(12, -1);
        b.addAct();
        b.stepRemove(3, 4, 0);
        Check.due("46 from no table", b.run(3), false);
        Check.reason("46 from no table", b, ClubBase.UNWRITABLE, -1, -1, -1);
        b.condition(4, 0, 0, ClubBase.IS, 99);
        Check.due("46 no answers", b.run(3), true);
    }

    private static void promise46Wrong() {
        Check.wrong("46 act", Check.INDEX, Club::all, x -> x.stepRemove(1, 0, 0));
        Check.wrong("46 question", Check.INDEX, Club::all, x -> x.stepRemove(0, 4, 0));
        Check.wrong("46 column", Check.INDEX, Club::all, x -> x.stepRemove(0, 0, 4));
        Check.wrong("46 groups", Check.ARGUMENT, Club::all, x -> x.stepRemove(0, 2, 0));
        Check.wrong("46 six", Check.STATE, ActTest::six, x -> x.stepRemove(0, 0, 0));
        Check.wrong("46 groups before six", Check.ARGUMENT, ActTest::six, x -> x.stepRemove(0, 2, 0));
    }

    private static void promise47StepIf() {
        ClubBase b = ready();
        b.ask(2, -1);
        b.condition(4, 0, 1, ClubBase.IS, 7);
        Check.due("47 steps", b.stepIf(0, 4, 2), 1);
        b.stepPut(0, 0, 1, 1);
        b.stepPut(0, 4, 1, 2);
        b.stepPut(0, 0, 2, B);
        Check.due("47 done", b.run(0), true);
        Check.due("47 not left out", b.cell(1, 0, 1), 1);
        Check.due("47 not left out, too", b.cell(2, 0, 1), 2);
        b.put(1, 0, 1, 9);
        b.put(1, 1, 2, 1);
        Check.due("47 done again", b.run(0), true);
        Check.due("47 left out", b.cell(1, 0, 1), 9);
        Check.due("47 the third is done", b.cell(1, 1, 2), B);
        b.addAct();
        b.stepIf(1, 4, 5);
        b.stepPut(1, 0, 3, 1);
        Check.due("47 as many as there are", b.run(1), true);
        b.addAct();
        Check.due("47 a cross", b.stepIf(2, 3, 1), 1);
        Check.due("47 groups", b.stepIf(2, 2, 1), 2);
        b.addAct();
        b.stepIf(3, 4, 1);
        b.stepIf(3, 0, 1);
        b.stepPut(3, 0, 1, 3);
        Check.due("47 an IF left out", b.run(3), true);
        Check.due("47 what it guards", b.cell(1, 0, 1), 3);
        Check.wrong("47 act", Check.INDEX, Club::all, x -> x.stepIf(1, 0, 9));
        Check.wrong("47 question", Check.INDEX, Club::all, x -> x.stepIf(0, 4, 9));
        Check.wrong("47 skip 0", Check.ARGUMENT, Club::all, x -> x.stepIf(0, 0, 0));
        Check.wrong("47 skip 6", Check.ARGUMENT, Club::all, x -> x.stepIf(0, 0, 6));
        Check.wrong("47 six", Check.STATE, ActTest::six, x -> x.stepIf(0, 0, 1));
        Check.wrong("47 skip before six", Check.ARGUMENT, ActTest::six, x -> x.stepIf(0, 0, 0));
    }

    private static void promise48Run() {
        ClubBase b = ready();
        b.stepPut(0, 0, 1, 10);
        b.stepRemove(0, 1, 4);
        b.put(0, 0, 0, 77);
        Check.due("48 refused", b.run(0), false);
        Check.reason("48 refused", b, ClubBase.FORBIDDEN, 1, 0, 0);
        Check.due("48 taken back", b.cell(1, 0, 1), 30);
        Check.due("48 totals, too", b.cell(0, 0, 2), 30);
        b.addAct();
        b.stepPut(1, 0, 0, 1);
        Check.due("48 done", b.run(1), true);
        Check.reason("48 done", b, 0, -1, -1, -1);
        b.addRule(0, 2, ClubBase.AT_MOST, 1, 30);
        b.addAct();
        b.stepPut(2, 0, 1, 15);
        Check.due("48 each change by itself", b.run(2), false);
        Check.reason("48 each change by itself", b, ClubBase.RULE, 0, 1, 0);
        Check.due("48 the first was good", b.cell(1, 0, 1), 30);
        b.addAct();
        b.stepPut(3, 0, 1, 1);
        b.type(1, 2);
        b.stepAdd(3, 1);
        b.stepPut(3, 0, 0, B);
        Check.due("48 answers as the step begins", b.run(3), true);
        Check.due("48 the row of the act", b.cell(1, 4, 1), 2);
        Check.due("48 no total", b.cell(0, 1, 2), 0);
        Check.wrong("48 act", Check.INDEX, Club::all, x -> x.run(1));
        Check.wrong("48 below", Check.INDEX, Club::all, x -> x.run(-1));
    }

    private static void promise49Undoable() {
        ClubBase b = ready();
        Check.due("49 none", b.undoable(), 0);
        for (int n = 1; n < 8; n++) {
            b.run(0);
            Check.due("49 also such that change nothing", b.undoable(), Math.min(n, 5));
        }
        b.type(0, 77);
        b.openForm(0, 0);
        b.put(0, 0, 0, 77);
        b.enter(0);
        b.ask(0, -1);
        b.addAct();
        b.stepPut(1, 0, 3, 1);
        b.run(1);
        Check.due("49 refused calls, questions and acts", b.undoable(), 5);
        b.undo();
        Check.due("49 taken back", b.undoable(), 4);
        Check.Calls[] changes = {x -> x.addTable(), x -> x.addNumber(2, 0, 0), x -> x.addLink(2, 0, 0), x -> x.addReckoned(2, 0, 0, 0, 0),
            x -> x.reckonAnew(0, 3, ClubBase.COUNT, 0, 0, 1), x -> x.need(0, 0, false), x -> x.single(0, 0, false), x -> x.narrow(0, 0, 0, 9),
            x -> x.drop(2, 3), x -> x.setRemoval(1, 0, 0), x -> x.addRule(0, 0, 3, 0, 0), x -> x.dropRule(0), x -> x.enter(0),
            x -> x.put(0, 0, 0, 1), x -> x.remove(2, 0), x -> x.enterInside(1, 0), x -> x.write(0, 0, 0, 0)};
        b.clearDraft();
        for (int n = 0; n < changes.length; n++) {
            b.run(0);
            changes[n].on(b);
            Check.due("49 change " + n, b.undoable(), 0);
        }
    }

    private static void promise50Undo() {
        ClubBase b = ready();
        b.stepPut(0, 0, 1, 1);
        b.type(0, 4);
        b.stepAdd(0, 0);
        b.run(0);
        b.addAct();
        b.stepRemove(1, 1, 0);
        b.run(1);
        b.put(0, 0, 0, 77);
        Check.due("50 the latest first", b.undo(), 1);
        Check.due("50 row again", b.isThere(1, 1), true);
        Check.due("50 followed row again", b.cell(2, 0, 0), 1);
        Check.due("50 the first act still", b.cell(1, 1, 1), 1);
        Check.reason("50 the reason stays", b, ClubBase.RANGE, 0, 0, 0);
        Check.due("50 the first", b.undo(), 0);
        Check.due("50 cell", b.cell(1, 1, 1), 15);
        Check.due("50 BLANK cell", b.cell(1, 2, 1), B);
        Check.due("50 total", b.cell(0, 1, 2), 15);
        Check.due("50 row", b.rows(0), 3);
        Check.due("50 the draft stays", b.type(0, 5), 4);
        Check.due("50 the number is free", b.enter(0), 3);
        promise50Five();
        Check.wrong("50 none", Check.STATE, x -> { Club.all(x); x.undo(); }, ClubBase::undo);
        Check.wrong("50 a change behind", Check.STATE, x -> { Club.all(x); x.need(0, 0, false); }, ClubBase::undo);
    }

    private static void promise50Five() {
        ClubBase b = Club.small();
        b.addAct();
        b.stepAdd(0, 0);
        for (int n = 0; n < 7; n++) b.run(0);
        for (int n = 4; n >= 0; n--) {
            Check.due("50 how many more", b.undo(), n);
            Check.due("50 rows", b.rows(0), n + 2);
        }
        Check.due("50 the first two stay", b.isThere(0, 1), true);
        b.run(0);
        Check.due("50 an act again", b.undoable(), 1);
        Check.due("50 taken back", b.undo(), 0);
    }

    public static void main(String[] args) {
        promise43AddAct();
        promise44StepPut();
        promise45StepAdd();
        promise46StepRemove();
        promise46Wrong();
        promise47StepIf();
        promise48Run();
        promise49Undoable();
        promise50Undo();
        Check.end("ActTest");
    }
}
