/** Runs with which the tests of edges begin. */
final class Starts {
    static final Run NEW = new Run();

    /**
     * Five pupils of five kinds; course 0 has no drills, 1 no labs, 2 one lecture alone, 3 nothing. Lab 0 of course 0 and
     * lecture 0 of course 1 are full. More than 30 changes were made, one undone; 30 can be; each finding but OVER was told;
     * there are sheets of each sort, and one is missing; there is a text on the tape.
     */
    static final Run OFFICE = new Run(
            "section(0, 0, 0, {0}, 2, -1)", "section(0, 0, 1, {1}, 2, -1)",
            "section(0, 1, 0, {2}, 1, -1)", "section(0, 1, 1, {3}, 2, 1)",
            "section(1, 0, 0, {4 5}, 1, -1)", "section(1, 2, 1, {6}, 2, 0)", "section(2, 0, 1, {8 19}, 9, 1)",
            "pupil(0, {10}, 15)", "pupil(1, {0}, 3)", "pupil(3, 0, 0)", "pupil(2, {0 4 8}, 15)", "pupil(4, 0, 7)",
            "put(0, 0, 0)", "put(0, 1, 1)", "put(1, 0, 6)", "put(4, 2, 4)",
            "pupil(5, 0, 15)", "pupil(5, 0, 15)", "leave()",
            "sheet(0, 0, 3)", "write(0, 0, 1)", "write(0, 1, 200)", "write(0, 2, -3)",
            "sheet(1, 1, 6)", "write(1, 0, 4)", "write(1, 5, MIN)",
            "sheet(2, 2, 40)", "write(2, 0, LMAX)", "write(2, 39, LMIN)",
            "triples(4)", "as(0, 1)", "out(2, 0)", "put(3, 0, 0)", "orders(3)", "sheet(0, 0, -1)", "item(3, 0)",
            "tape 'free away 19 wish d'", "seed(-77)")
            .then(changesOfAway(2, 14))
            .then("undo()", "change(2, 1, {3 4})");

    private Starts() {
    }

    /** Course 0 has lectures at 0 and 1, labs at 2 and 3, drills at 4 and 5, all with one cap; all pupils wish all. */
    static Run whole(int cap, int pupils) {
        return new Run(sections(0, cap)).then(pupils(pupils));
    }

    static String[] sections(int course, int cap) {
        String[] calls = new String[6];
        for (int part = 0; part < 6; part++) {
            calls[part] = "section(" + course + ", " + part / 2 + ", " + part % 2 + ", {" + part + "}, " + cap + ", -1)";
        }
        return calls;
    }

    static String[] pupils(int n) {
        String[] calls = new String[n];
        for (int i = 0; i < n; i++) {
            calls[i] = "pupil(0, 0, 15)";
        }
        return calls;
    }

    /** As many changes that nobody else feels; the hours away of the pupil are 1, 2, .. as a set. */
    static String[] changesOfAway(int pupil, int n) {
        String[] calls = new String[n];
        for (int i = 0; i < n; i++) {
            calls[i] = "change(" + pupil + ", 1, " + (i + 1) + ")";
        }
        return calls;
    }
}
