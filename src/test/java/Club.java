/** A filled club for the tests. */
final class Club {
    static final int COURSES = 0, BOOKINGS = 1, NOTES = 2;
    static final int B = ClubBase.BLANK;

    private Club() {
    }

    /** Types cells from column 0 on; enters them. */
    static int enter(ClubBase b, int table, int... cells) {
        b.clearDraft();
        for (int c = 0; c < cells.length; c++) b.type(c, cells[c]);
        return b.enter(table);
    }

    /** One table with two number columns, both from 0 to 9, and no rows. */
    static ClubBase small() {
        ClubBase b = new ClubBase();
        b.addTable();
        b.addNumber(0, 0, 9);
        b.addNumber(0, 0, 9);
        return b;
    }

    /**
     * Courses: 0 number, 1 places, 2 the total of seats, 3 how many bookings. Bookings: 0 a course (FORBIDS),
     * 1 seats, 2 another booking (BLANKS), 3 the places of the course. Notes: 0 a booking (FOLLOWS), 1 a number.
     */
    static void design(ClubBase b) {
        for (int t = 0; t < 3; t++) b.addTable();
        b.addNumber(COURSES, 0, 9);
        b.addNumber(COURSES, -50, 500);
        b.addLink(BOOKINGS, COURSES, ClubBase.FORBIDS);
        b.addNumber(BOOKINGS, 0, 100);
        b.addLink(BOOKINGS, BOOKINGS, ClubBase.BLANKS);
        b.addReckoned(BOOKINGS, ClubBase.LOOK, 0, 1, 0);
        b.addReckoned(COURSES, ClubBase.TOTAL, 0, 1, BOOKINGS);
        b.addReckoned(COURSES, ClubBase.COUNT, 0, 0, BOOKINGS);
        b.addLink(NOTES, BOOKINGS, ClubBase.FOLLOWS);
        b.addNumber(NOTES, 0, 9);
    }

    static void rows(ClubBase b) {
        enter(b, COURSES, 1, 50);
        enter(b, COURSES, 2, 20);
        enter(b, COURSES, 3);
        enter(b, BOOKINGS, 0, 30);
        enter(b, BOOKINGS, 1, 15, 0);
        enter(b, BOOKINGS, 1, B, 1);
        enter(b, BOOKINGS, B, 5);
        enter(b, NOTES, 1, 7);
    }

    /** Question 0: all bookings; 1: bookings with their courses; 2: seats by course; 3: seats by course and seats. */
    static void questions(ClubBase b) {
        b.ask(BOOKINGS, -1);
        b.ask(BOOKINGS, 0);
        b.askGroups(11, 0, 1);
        b.askCross(11, 0, 1, 1);
    }

    /** All of these, an act that was done, a form at course 0, a draft, and a refusal that is told. */
    static void all(ClubBase b) {
        design(b);
        b.addRule(COURSES, 2, ClubBase.AT_MOST, 1, 0);
        rows(b);
        questions(b);
        b.addAct();
        b.stepPut(0, 0, 1, 4);
        b.run(0);
        b.openForm(COURSES, 0);
        b.type(0, 1);
        b.type(1, 3);
        b.put(COURSES, 0, 0, 77);
    }

    static ClubBase filled() {
        ClubBase b = new ClubBase();
        design(b);
        rows(b);
        return b;
    }
}
