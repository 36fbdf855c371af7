/** What README.md shows, call by call, so that it does not tell what does not hold. */
public final class ReadmeTest {
    private final ClubBase club = new ClubBase();
    private int courses, places, bookings, course, seats, taken, enough, row, large, sums, table, act;

    private void design() {
        courses = club.addTable();
        places = club.addNumber(courses, 0, 500);
        bookings = club.addTable();
        course = club.addLink(bookings, courses, ClubBase.FORBIDS);
        seats = club.addNumber(bookings, 1, 100);
        taken = club.addReckoned(courses, ClubBase.TOTAL, course, seats, bookings);
        Check.due("need", club.need(bookings, course, true), true);
        enough = club.addRule(courses, taken, ClubBase.AT_MOST, places, 0);
        Check.due("addRule", enough, 0);
    }

    private void rows() {
        club.type(places, 50);
        row = club.enter(courses);
        Check.due("enter a course", row, 0);
        club.type(course, row);
        club.type(seats, 51);
        Check.due("enter too many", club.enter(bookings), -1);
        Check.reason("too many", club, ClubBase.RULE, courses, row, enough);
        club.type(seats, 40);
        Check.due("enter a booking", club.enter(bookings), 0);
        Check.due("taken", club.cell(courses, row, taken), 40);
        Check.due("remove", club.remove(courses, row), false);
        Check.reason("remove", club, ClubBase.FORBIDDEN, bookings, 0, course);
    }

    private void form() {
        club.openForm(courses, row);
        club.type(seats, 5);
        Check.due("enterInside", club.enterInside(bookings, course), 1);
        Check.due("the link", club.cell(bookings, 1, course), row);
        Check.due("choice", club.choice(bookings, 1, course, 0), 0);
    }

    private void changedDesign() {
        Check.due("wouldLose", club.wouldLose(bookings, seats, 1, 20), 1);
        Check.due("narrow", club.narrow(bookings, seats, 1, 60), true);
        Check.due("drop", club.drop(bookings, seats), false);
        Check.reason("drop", club, ClubBase.USED, bookings, -1, seats);
    }

    private void questions() {
        large = club.ask(bookings, course);
        Check.due("condition", club.condition(large, 0, seats, ClubBase.LEAST, 10), 1);
        Check.due("answers", club.answers(large), 1);
        Check.due("answer", club.answer(large, 0, 2 + places), 50);
        Check.due("target", club.target(large, 0, seats), 1001);
        Check.due("write", club.write(large, 0, seats, 30), true);
        Check.due("written", club.cell(bookings, 0, seats), 30);
        sums = club.askGroups(bookings, course, seats);
        Check.due("sum", club.answer(sums, 0, 2), 35);
        Check.due("question over a question", club.ask(10 + large, -1), 2);
        table = club.askCross(bookings, course, seats, seats);
        Check.due("columns", club.columns(table), 3);
        Check.due("keyOf", club.keyOf(table, 2), 30);
    }

    private void acts() {
        act = club.addAct();
        Check.due("stepPut", club.stepPut(act, large, seats, 9), 1);
        club.type(places, 12);
        Check.due("stepAdd", club.stepAdd(act, courses), 2);
        Check.due("run", club.run(act), true);
        Check.due("put", club.cell(bookings, 0, seats), 9);
        Check.due("added", club.cell(courses, 1, places), 12);
        Check.due("undoable", club.undoable(), 1);
        Check.due("undo", club.undo(), 0);
        Check.due("taken back", club.cell(bookings, 0, seats), 30);
        Check.due("rows", club.rows(courses), 1);
    }

    public static void main(String[] args) {
        ReadmeTest test = new ReadmeTest();
        test.design();
        test.rows();
        test.form();
        test.changedDesign();
        test.questions();
        test.acts();
        Check.end("ReadmeTest");
    }
}
