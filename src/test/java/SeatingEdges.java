/** Edges of promises 22 to 27: a course seated anew, one let in, in how many ways. */
final class SeatingEdges extends Edges {
    @Override
    void run() {
        courses();
        nobody();
        mostByCaps();
        mostByHours();
        toldOnly();
        askedBefore();
        seatMost();
        seatFewestMoved();
        movedToNone();
        seatFirst();
        evensMost();
        evensLeastUneven();
        evensFewestMoved();
        evensFirst();
        chainFindings("chain", 25);
        chainFindings("lets", 26);
        chainOfNone();
        chainOfOne();
        chainOfMore();
        allStillSit();
        ways();
    }

    private static void courses() {
        String[] acts = {"most", "seat", "evens", "ways"};
        int[] numbers = {22, 23, 24, 27};
        for (int i = 0; i < acts.length; i++) {
            promise(numbers[i]);
            edges(OFFICE, acts[i], "0", "0..3");
        }
    }

    private static Run lectures(int firstCap, int secondCap, int pupils) {
        return new Run("section(0, 0, 0, {0}, " + firstCap + ", -1)", "section(0, 0, 1, {1}, " + secondCap + ", -1)")
                .then(Starts.pupils(pupils));
    }

    private static void nobody() {
        promise(22);
        Run[] empty = {NEW, Starts.whole(9, 0), NEW.then(Starts.pupils(6)), Starts.whole(0, 6),
            new Run("section(0, 0, 0, {0}, 9, -1)", "pupil(0, 0, 14)", "pupil(0, {0}, 15)", "pupil(0, 0, 0)"),
            new Run("section(0, 1, 0, {0}, 9, -1)", "section(0, 2, 1, {0}, 9, -1)", "pupil(0, 0, 15)")};
        for (Run run : empty) {
            row(run, "most(0)", 0, "seat(0)", 0, "evens(0)", 0, "ways(0)", 1, "count(2)", 0);
        }
    }

    private static void mostByCaps() {
        promise(22);
        for (int cap = 0; cap <= 9; cap++) {
            Run one = new Run("section(0, 0, 1, {0}, " + cap + ", -1)").then(Starts.pupils(6));
            due(one, "most(0)", Math.min(cap, 6));
            due(Starts.whole(cap, 6), "most(0)", Math.min(2 * cap, 6));
            for (int sort = 1; sort < 3; sort++) {
                Run narrow = lectures(9, 9, 6).then("section(0, " + sort + ", 0, {2}, " + cap + ", -1)");
                due(narrow, "most(0)", Math.min(cap, 6));
                due(narrow.then("section(0, " + sort + ", 1, {3}, 1, -1)"), "most(0)", Math.min(cap + 1, 6));
            }
        }
        due(lectures(3, 3, 6), "most(0)", 6);
        due(lectures(3, 2, 6), "most(0)", 5);
        due(lectures(2, 3, 6), "most(0)", 5);
        Run linked = lectures(2, 9, 6).then("section(0, 1, 0, {2}, 9, 0)", "section(0, 1, 1, {3}, 3, 1)");
        due(linked, "most(0)", 5);
    }

    private static void mostByHours() {
        promise(22);
        Run away = lectures(2, 2, 4);
        due(away.then("change(0, 1, {1})", "change(1, 1, {1})", "change(2, 1, {1})"), "most(0)", 3);
        due(away.then("change(0, 1, {1})", "change(1, 1, {1})", "change(2, 1, {2})"), "most(0)", 4);
        due(away.then("change(0, 1, {0 1})"), "most(0)", 3);
        Run busy = lectures(9, 9, 2).then("section(1, 0, 0, {0}, 9, -1)", "section(1, 0, 1, {0 1}, 9, -1)");
        due(busy.then("put(0, 1, 0)"), "most(0)", 2);
        due(busy.then("put(0, 1, 4)"), "most(0)", 1);
        due(busy.then("put(0, 0, 0)", "put(1, 0, 4)"), "most(1)", 1);
        due(busy.then("put(0, 0, 0)", "put(1, 0, 4)"), "most(0)", 2);
    }

    /** What is asked only changes nothing. */
    private static void toldOnly() {
        promise(22);
        for (String call : new String[] {"most(0)", "ways(0)", "chain(4, 0)", "chain(3, 0)", "most(1)", "ways(2)"}) {
            Checks.unchanged(OFFICE, call);
            due(OFFICE.then(call), "status(-1)", OFFICE.ask("status(-1)"));
        }
    }

    /** One question leaves nothing behind that another feels. */
    private static void askedBefore() {
        Run start = lectures(2, 1, 4).then("put(0, 0, 4)", "put(1, 0, 0)", "change(2, 1, {0})");
        String[] acts = {"most(0)", "seat(0)", "evens(0)", "chain(2, 0)", "lets(2, 0)", "ways(0)"};
        long[] answers = {3, 0, 1, 1, 4, 26};
        for (String ahead : new String[] {"most(0)", "ways(0)", "ways(1)", "chain(2, 0)", "chain(3, 0)", "chain(0, 0)"}) {
            for (int i = 0; i < acts.length; i++) {
                promise(22 + i);
                due(start, acts[i], answers[i]);
                due(start.then(ahead), acts[i], answers[i]);
            }
        }
    }

    /** Most pupils come first: though one that sits must be put to none for it. */
    private static void seatMost() {
        promise(23);
        Run parted = new Run("section(0, 0, 0, {0}, 1, -1)", "section(0, 0, 1, {1}, 1, -1)",
                "section(0, 1, 0, {2}, 1, -1)", "section(0, 1, 1, {3}, 1, -1)", "pupil(0, {1 3}, 1)",
                "pupil(0, {1 2}, 1)", "pupil(0, {0 3}, 1)", "put(0, 0, 0)");
        row(parted, "most(0)", 2, "seat(0)", 1, "its(0, 10)", -1, "its(1, 10)", 2, "its(2, 10)", 4, "seat(0)", 0);
        row(parted, "evens(0)", 0, "its(0, 10)", -1, "its(1, 10)", 2, "its(2, 10)", 4);
        Run six = lectures(3, 3, 6).then("put(0, 0, 4)", "put(1, 0, 4)", "put(2, 0, 4)", "change(3, 1, {0})",
                "change(4, 1, {0})", "change(5, 1, {0})");
        row(six, "seat(0)", 3, "its(0, 10)", 0, "its(1, 10)", 0, "its(2, 10)", 0, "its(3, 10)", 4, "its(4, 10)", 4,
                "its(5, 10)", 4);
    }

    private static void seatFewestMoved() {
        promise(23);
        Run one = new Run("section(0, 0, 0, {0}, 1, -1)").then(Starts.pupils(3)).then("put(0, 0, 0)");
        row(one, "seat(0)", 0, "its(0, 10)", 0, "its(1, 10)", -1, "its(2, 10)", -1);
        row(lectures(9, 9, 3).then("put(0, 0, 4)", "put(2, 0, 4)"), "seat(0)", 0, "its(0, 10)", 4, "its(1, 10)", 0,
                "its(2, 10)", 4);
        row(lectures(1, 1, 3).then("put(0, 0, 4)"), "seat(0)", 0, "its(0, 10)", 4, "its(1, 10)", -1,
                "its(2, 10)", 0);
        Run moves = lectures(2, 2, 3).then("put(0, 0, 0)", "put(1, 0, 0)", "change(2, 1, {1})");
        row(moves, "seat(0)", 1, "its(0, 10)", 0, "its(1, 10)", 4, "its(2, 10)", 0);
        Run fixed = moves.then("change(1, 1, {1})");
        row(fixed, "seat(0)", 1, "its(0, 10)", 4, "its(1, 10)", 0, "its(2, 10)", 0);
    }

    /** One that would be put to none is moved like one put elsewhere: of both the first, whoever is new. */
    private static void movedToNone() {
        Run tie = new Run("section(0, 0, 0, {0}, 1, -1)", "section(0, 0, 1, {1}, 1, -1)",
                "section(0, 1, 0, {2}, 1, -1)", "section(0, 1, 1, {3}, 1, -1)", "pupil(0, {3}, 1)",
                "pupil(0, {1 2}, 1)", "pupil(0, {0 3}, 1)", "put(0, 0, 0)");
        promise(23);
        row(tie, "most(0)", 2, "seat(0)", 1, "its(0, 10)", -1, "its(1, 10)", 2, "its(2, 10)", 4);
        promise(24);
        row(tie, "evens(0)", 0, "its(0, 10)", -1, "its(1, 10)", 2, "its(2, 10)", 4);
        promise(26);
        row(tie, "chain(1, 0)", 1, "lets(1, 0)", 2, "its(0, 10)", 4, "its(2, 10)", -1);
    }

    private static void seatFirst() {
        promise(23);
        row(lectures(1, 0, 3), "seat(0)", 0, "its(0, 10)", -1, "its(1, 10)", -1, "its(2, 10)", 0);
        row(lectures(0, 1, 3), "seat(0)", 0, "its(0, 10)", -1, "its(1, 10)", -1, "its(2, 10)", 4);
        row(lectures(1, 1, 3), "seat(0)", 0, "its(0, 10)", -1, "its(1, 10)", 0, "its(2, 10)", 4);
        row(lectures(2, 1, 3), "seat(0)", 0, "its(0, 10)", 0, "its(1, 10)", 0, "its(2, 10)", 4);
        row(lectures(2, 1, 3).then("change(0, 1, {0})"), "seat(0)", 0, "its(0, 10)", 4, "its(1, 10)", 0,
                "its(2, 10)", 0);
        lastOnesSit();
        Run oneSeat = Starts.whole(0, 6).then("section(0, 0, 1, {1}, 1, -1)", "section(0, 1, 1, {3}, 1, -1)",
                "section(0, 2, 1, {5}, 1, -1)");
        row(oneSeat, "most(0)", 1, "seat(0)", 0, "its(4, 10)", -1, "its(5, 10)", 7, "count(2)", 1);
        row(Starts.whole(9, 6), "seat(0)", 0, "its(0, 10)", 0, "its(5, 10)", 0);
        row(Starts.whole(3, 6), "seat(0)", 0, "its(0, 10)", 0, "its(2, 10)", 0, "its(3, 10)", 7, "its(5, 10)", 7);
        row(lectures(1, 0, 3).then("change(2, 2, 14)"), "seat(0)", 0, "its(1, 10)", 0, "its(2, 10)", -1);
        row(lectures(9, 9, 2).then("section(1, 0, 0, {9}, 9, -1)", "put(0, 1, 0)"), "seat(0)", 0, "its(0, 11)", 0,
                "its(1, 11)", -1, "count(2)", 3);
    }

    /** Of 64 sets of open sections, with a seat each, and two to six pupils: digit 0 comes first, so the last ones sit. */
    private static void lastOnesSit() {
        for (int open = 0; open < 64; open++) {
            Run run = NEW;
            for (int part = 0; part < 6; part++) {
                if ((open >> part & 1) != 0) {
                    run = run.then(Starts.sections(0, 1)[part]);
                }
            }
            int[] lecture = {-1, 0, 1, 0};
            int[] other = {0, 0, 1, 0};
            boolean two = (open & 3) == 3 && (open >> 2 & 3) % 3 == 0 && (open >> 4 & 3) % 3 == 0;
            int first = (open & 3) == 0 ? -1 : 4 * lecture[open & 3] + 2 * other[open >> 2 & 3] + other[open >> 4 & 3];
            int second = 4 + ((open >> 2 & 3) == 3 ? 2 : 0) + ((open >> 4 & 3) == 3 ? 1 : 0);
            for (int pupils = 2; pupils <= 6; pupils++) {
                SectionOffice x = run.then(Starts.pupils(pupils)).made();
                Checks.same("none must move", x.seat(0), 0);
                for (int i = 0; i < pupils; i++) {
                    int due = i == pupils - 1 ? two ? second : first : i == pupils - 2 && two ? first : -1;
                    Checks.same("open " + open + ", of " + pupils + ": its(" + i + ", 10)", x.its(i, 10), due);
                }
            }
        }
    }

    private static void evensMost() {
        promise(24);
        row(lectures(6, 0, 6), "evens(0)", 6, "uneven(0)", 6, "of(0, 0, 0, 4)", 6);
        row(lectures(5, 1, 6), "evens(0)", 4, "of(0, 0, 0, 4)", 5, "of(0, 0, 1, 4)", 1);
        row(lectures(1, 9, 3).then("put(0, 0, 0)"), "evens(0)", 1, "of(0, 0, 1, 4)", 2, "its(0, 10)", 0);
        row(new Run("section(0, 0, 0, {0}, 9, -1)").then(Starts.pupils(6)), "evens(0)", 0, "of(0, 0, 0, 4)", 6);
    }

    private static void evensLeastUneven() {
        promise(24);
        Run all = lectures(9, 9, 6).then("fill(0)");
        row(all, "uneven(0)", 6, "evens(0)", 0, "its(0, 10)", 0, "its(2, 10)", 0, "its(3, 10)", 4, "its(5, 10)", 4);
        row(lectures(9, 9, 5).then("fill(0)"), "evens(0)", 1, "its(2, 10)", 0, "its(3, 10)", 4, "its(4, 10)", 4);
        row(lectures(9, 9, 1), "evens(0)", 1, "its(0, 10)", 0);
        row(Starts.whole(9, 6).then("fill(0)"), "uneven(0)", 18, "evens(0)", 0, "of(0, 0, 1, 4)", 3,
                "of(0, 1, 1, 4)", 3, "of(0, 2, 1, 4)", 3);
        row(Starts.whole(9, 3), "evens(0)", 3);
        for (int sort = 0; sort < 3; sort++) {
            int second = 4 >> sort;
            Run one = Starts.whole(9, 2).then("shut(0, " + (sort + 1) % 3 + ", 1)", "shut(0, " + (sort + 2) % 3 + ", 1)");
            row(one.then("fill(0)"), "uneven(0)", 2, "evens(0)", 0, "its(0, 10)", 0, "its(1, 10)", second);
            row(one.then("put(0, 0, " + second + ")", "put(1, 0, " + second + ")"), "uneven(0)", 2, "evens(0)", 0,
                    "its(0, 10)", 0, "its(1, 10)", second);
        }
        row(Starts.whole(9, 2).then("shut(0, 1, 1)", "fill(0)"), "evens(0)", 0, "its(0, 10)", 0, "its(1, 10)", 5);
        row(Starts.whole(9, 2).then("shut(0, 1, 0)", "fill(0)"), "evens(0)", 0, "its(0, 10)", 2, "its(1, 10)", 7);
    }

    private static void evensFewestMoved() {
        promise(24);
        row(lectures(9, 9, 1).then("put(0, 0, 4)"), "evens(0)", 1, "its(0, 10)", 4);
        row(lectures(9, 9, 2).then("put(0, 0, 4)", "put(1, 0, 0)"), "evens(0)", 0, "its(0, 10)", 4, "its(1, 10)", 0);
        row(lectures(9, 9, 3).then("put(0, 0, 4)", "put(1, 0, 4)"), "evens(0)", 1, "its(0, 10)", 4, "its(1, 10)", 4,
                "its(2, 10)", 0);
        row(lectures(9, 9, 4).then("put(0, 0, 4)", "put(1, 0, 4)", "put(2, 0, 4)"), "evens(0)", 0, "its(0, 10)", 0,
                "its(1, 10)", 4, "its(2, 10)", 4, "its(3, 10)", 0, "undo()", 9, "its(0, 10)", 4);
    }

    private static void evensFirst() {
        promise(24);
        row(lectures(9, 9, 3), "evens(0)", 1, "its(0, 10)", 0, "its(1, 10)", 0, "its(2, 10)", 4);
        row(lectures(9, 9, 2).then("put(0, 0, 0)", "put(1, 0, 0)"), "evens(0)", 0, "its(0, 10)", 0,
                "its(1, 10)", 4);
        row(lectures(1, 1, 3), "evens(0)", 0, "its(0, 10)", -1, "its(1, 10)", 0, "its(2, 10)", 4);
        row(lectures(1, 1, 3).then("put(0, 0, 0)"), "evens(0)", 0, "its(0, 10)", 0, "its(1, 10)", -1,
                "its(2, 10)", 4);
    }

    private static void chainFindings(String act, int number) {
        promise(number);
        edges(OFFICE, act, "4 0", "0..4 0..3");
        for (int course = 0; course < 4; course++) {
            refused(OFFICE, act + "(2, " + course + ")", NONE);
        }
        refused(OFFICE, act + "(1, 2)", NONE);
        refused(OFFICE, act + "(4, 3)", NONE);
        refused(OFFICE, act + "(0, 3)", NONE);
        refused(OFFICE, act + "(1, 1)", NONE);
        refused(OFFICE, act + "(3, 1)", NONE);
        refused(OFFICE, act + "(3, 2)", NONE);
        refused(OFFICE, act + "(0, 0)", STATE);
        refused(OFFICE, act + "(0, 1)", STATE);
        refused(OFFICE, act + "(1, 0)", STATE);
        refused(OFFICE, act + "(4, 2)", STATE);
        refused(Starts.whole(0, 1), act + "(0, 0)", NONE);
    }

    /** Whoever fits is let in to the least triple, and nobody moves. */
    private static void chainOfNone() {
        promise(25);
        due(OFFICE, "chain(4, 0)", 0);
        due(OFFICE, "chain(0, 2)", 0);
        due(Starts.whole(1, 2).then("put(1, 0, 0)"), "chain(0, 0)", 0);
        promise(26);
        row(OFFICE, "lets(4, 0)", 6, "its(4, 10)", 6, "its(0, 10)", 0, "its(1, 10)", 6, "its(3, 10)", -1,
                "lets(4, 0)", LOW - STATE);
        row(Starts.whole(9, 3).then("put(1, 0, 7)"), "lets(0, 0)", 0, "its(1, 10)", 7, "its(2, 10)", -1);
        row(Starts.whole(1, 3).then("put(1, 0, 0)"), "lets(0, 0)", 7, "its(1, 10)", 0, "its(2, 10)", -1,
                "chain(2, 0)", LOW - NONE);
    }

    private static void chainOfOne() {
        promise(25);
        Run one = lectures(1, 1, 3).then("put(0, 0, 0)", "change(1, 1, {1})");
        due(one, "chain(1, 0)", 1);
        due(one, "chain(2, 0)", 0);
        due(one.then("change(0, 1, {1})"), "chain(1, 0)", LOW - NONE);
        due(one.then("put(2, 0, 4)"), "chain(1, 0)", LOW - NONE);
        promise(26);
        row(one, "lets(1, 0)", 0, "its(0, 10)", 4, "its(2, 10)", -1, "undo()", 7, "its(0, 10)", 0, "its(1, 10)", -1);
        Run three = lectures(3, 3, 4).then("put(0, 0, 0)", "put(1, 0, 0)", "put(2, 0, 0)", "change(3, 1, {1})");
        row(three, "chain(3, 0)", 1, "lets(3, 0)", 0, "its(0, 10)", 0, "its(1, 10)", 0, "its(2, 10)", 4);
        row(three.then("change(2, 1, {1})"), "lets(3, 0)", 0, "its(0, 10)", 0, "its(1, 10)", 4, "its(2, 10)", 0);
        Run asked = lectures(1, 1, 2).then("change(0, 1, {1})", "put(1, 0, 0)");
        row(asked, "chain(0, 0)", 1, "lets(0, 0)", 0, "its(1, 10)", 4);
    }

    /** Two and three others, each of whom needs the seat of the next. */
    private static void chainOfMore() {
        Run sections = new Run("section(0, 0, 0, {0}, 1, -1)", "section(0, 0, 1, {1}, 2, -1)",
                "section(0, 1, 0, {2}, 2, -1)", "section(0, 1, 1, {3}, 1, -1)");
        Run two = sections.then("pupil(0, {1 3}, 1)", "pupil(0, {3}, 1)", "pupil(0, {0}, 1)", "put(1, 0, 0)",
                "put(2, 0, 4)");
        promise(25);
        due(two, "chain(0, 0)", 2);
        promise(26);
        row(two, "lets(0, 0)", 0, "its(1, 10)", 4, "its(2, 10)", 6, "its(0, 10)", 0);
        Run three = new Run("section(0, 0, 0, {0}, 3, -1)", "section(0, 0, 1, {1}, 1, -1)",
                "section(0, 1, 0, {2}, 2, -1)", "section(0, 1, 1, {3}, 2, 0)", "section(0, 2, 0, {4}, 2, -1)",
                "section(0, 2, 1, {5}, 3, 0)", "pupil(0, {4}, 1)", "pupil(0, {2}, 1)", "pupil(0, {2 5}, 1)",
                "pupil(0, 0, 1)", "put(0, 0, 3)", "put(1, 0, 2)", "put(3, 0, 0)");
        promise(25);
        due(three, "chain(2, 0)", 3);
        promise(26);
        row(three, "lets(2, 0)", 2, "its(0, 10)", 1, "its(1, 10)", 3, "its(3, 10)", 4);
        chainOfFour();
    }

    /** Pupil 5 needs lab 0 and drill 1, and lecture 1 is full: 1 and 2 can but go there, 3 and 4 come from there. */
    private static void chainOfFour() {
        Run four = new Run("section(0, 0, 0, {0}, 4, -1)", "section(0, 0, 1, {1}, 3, -1)",
                "section(0, 1, 0, {2}, 3, -1)", "section(0, 1, 1, {3}, 4, 1)", "section(0, 2, 0, {4}, 4, 1)",
                "section(0, 2, 1, {5}, 3, -1)", "pupil(0, 0, 1)", "pupil(0, 0, 1)", "pupil(0, 0, 1)",
                "pupil(0, {4}, 1)", "pupil(0, {3}, 1)", "pupil(0, {3 4}, 1)", "put(0, 0, 6)", "put(1, 0, 1)",
                "put(2, 0, 1)", "put(3, 0, 7)", "put(4, 0, 4)");
        promise(25);
        due(four, "chain(5, 0)", 4);
        promise(26);
        row(four, "lets(5, 0)", 1, "its(0, 10)", 6, "its(1, 10)", 6, "its(2, 10)", 6, "its(3, 10)", 1,
                "its(4, 10)", 1);
    }

    /** One that would have to be put to none for it is in the way for good, though as many would sit. */
    private static void allStillSit() {
        promise(25);
        Run full = lectures(2, 0, 3).then("put(0, 0, 0)", "put(1, 0, 0)");
        refused(full, "chain(2, 0)", NONE);
        refused(full, "lets(2, 0)", NONE);
        row(full.then("out(0, 0)"), "chain(2, 0)", 0, "lets(2, 0)", 0, "its(0, 10)", -1, "its(1, 10)", 0);
        Run parted = new Run("section(0, 0, 0, {0}, 1, -1)", "section(0, 0, 1, {1}, 1, -1)",
                "section(0, 1, 0, {2}, 1, -1)", "section(0, 1, 1, {3}, 1, -1)", "pupil(0, {1 3}, 1)",
                "pupil(0, {1 2}, 1)", "put(0, 0, 0)");
        refused(parted, "chain(1, 0)", NONE);
        due(parted, "most(0)", 1);
    }

    private static void ways() {
        promise(27);
        int[] oneLecture = {1, 7, 22, 42, 57, 63, 64, 64, 64, 64};
        for (int cap = 0; cap < 10; cap++) {
            for (int sort = 0; sort < 3; sort++) {
                Run one = new Run("section(3, 0, 0, {0}, " + (sort == 0 ? cap : 9) + ", -1)");
                if (sort > 0) {
                    one = one.then("section(3, " + sort + ", 0, {1}, " + cap + ", -1)");
                }
                due(one.then(Starts.pupils(6)), "ways(3)", oneLecture[cap]);
                due(one.then(Starts.pupils(6)).then("fill(0)"), "ways(3)", oneLecture[cap]);
            }
        }
        int power = 1;
        for (int pupils = 0; pupils <= 6; pupils++) {
            due(Starts.whole(9, pupils), "ways(0)", power);
            due(Starts.whole(6, pupils).then("fill(0)"), "ways(0)", power);
            power *= 9;
        }
        due(Starts.whole(5, 6), "ways(0)", waysOfFive());
        due(Starts.whole(9, 2).then("change(0, 1, {0})"), "ways(0)", 5 * 9);
        due(Starts.whole(9, 2).then("change(0, 1, {0 2 4})"), "ways(0)", 2 * 9);
        due(Starts.whole(9, 2).then("change(0, 1, {0 1})"), "ways(0)", 9);
        due(Starts.whole(9, 2).then("section(1, 0, 0, {5}, 1, -1)", "put(1, 1, 0)"), "ways(0)", 5 * 9);
        due(Starts.whole(1, 6), "ways(0)", 1 + 6 * 8 + 30 / 2 * 8);
    }

    /**
     * With five seats each, six in one section is what can't be: of all 9 to the 6th, 8 to the 6th have six that sit, of
     * which 2 times 4 to the 6th have one lecture; two sorts alike 4 times 2 to the 6th; all three 8 times 1.
     */
    private static int waysOfFive() {
        int anyOne = 3 * 2 * 4096 - 3 * 4 * 64 + 8;
        return 531441 - anyOne;
    }
}
