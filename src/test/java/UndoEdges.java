/** Edges of promises 39 to 41: what can be undone, what is counted, how many findings were told. */
final class UndoEdges extends Edges {
    /** A few changes only, so that none of them is lost when another comes. */
    private static final Run SOME = new Run("section(0, 0, 0, {0}, 2, -1)", "section(0, 0, 1, {1}, 2, -1)",
            "section(0, 1, 0, {2}, 3, -1)", "pupil(0, {9}, 3)", "pupil(1, 0, 15)", "pupil(4, {1}, 1)", "put(0, 0, 0)",
            "put(1, 0, 4)", "sheet(0, 0, 6)", "write(0, 0, 2)", "sheet(1, 2, 2)", "tape 'late ; free'", "seed(5)",
            "triples(4)");

    @Override
    void run() {
        everyChange();
        noChange();
        changesThatAlterNothing();
        thirty();
        to512();
        upAndDown();
        notUndone();
        undoFindings();
        counts();
        countOfCosts();
        status();
        statusOfEach();
    }

    /** Each change counts once, is undone by one undo, and brings back all that stood ahead of it. */
    private static void everyChange() {
        promise(39);
        String[] changes = {"section(0, 2, 0, {5}, 9, -1)", "section(0, 0, 0, {3}, 5, 1)", "section(3, 0, 0, {3}, 5, 1)",
            "shut(0, 0, 0)", "shut(0, 1, 0)", "shut(0, 0, 1)", "pupil(5, {3}, 15)", "leave()", "change(0, 0, 3)",
            "change(0, 1, {8})", "change(0, 2, 0)", "put(0, 0, 4)", "put(2, 0, 0)", "out(0, 0)", "out(1, 0)",
            "pick(2, 0, 1)", "pick(0, 0, 2)", "fill(0)", "seat(0)", "evens(0)", "lets(2, 0)", "trade(0, 1, 0)",
            "orders(0)", "text()", "loose(20)"};
        for (String change : changes) {
            Run done = SOME.then(change);
            due(done, "count(4)", 9);
            due(done, "undo()", 8);
            Run back = done.then("undo()", "seed(5)");
            Run due = change.equals("text()") ? SOME.then("wipe()") : SOME;
            Checks.alike(SOME + ": " + change + " undone", due, back);
            due(back, "status(-1)", 1);
        }
    }

    private static void noChange() {
        promise(39);
        String[] calls = {"of(0, 0, 0, 4)", "triples(0)", "time(0, 0)", "uneven(0)", "its(0, 4)", "as(1, 0)", "fits(2, 0)",
            "why(2, 0, 1)", "both(0, 1)", "would(2, 0, 0)", "most(0)", "chain(2, 0)", "ways(0)", "seed(9)", "feed(0, 1)",
            "wipe()", "line(0, -1)", "sheet(3, 0, 1)", "write(0, 1, 1)", "item(0, 0)", "copy(0, 0, 0, 1, 2)", "count(0)",
            "status(0)", "section(0, 0, 0, {0}, 0, -1)", "section(4, 0, 0, 0, 0, 0)", "shut(3, 0, 0)", "pupil(6, 0, 0)",
            "change(0, 1, {0})", "put(2, 0, 4)", "out(2, 0)", "pick(2, 1, 0)", "fill(5)", "seat(4)", "evens(4)",
            "lets(0, 0)", "trade(0, 2, 0)", "orders(3)", "loose(0)", "tell 'x'"};
        for (String call : calls) {
            row(SOME, call, SOME.ask(call), "count(4)", 8, "undo()", 7, "its(1, 10)", -1, "its(0, 10)", 0);
        }
    }

    private static void changesThatAlterNothing() {
        promise(39);
        String[] same = {"section(0, 0, 0, {0}, 2, -1)", "change(0, 0, 0)", "change(0, 1, {9})", "change(0, 2, 3)",
            "put(0, 0, 0)", "pick(0, 0, 0)", "fill(0)", "seat(0)", "evens(0)", "orders(1)", "trade(0, 1, 0)",
            "tell 'lecture a 0 0 cap 2'"};
        Run still = SOME.then("wipe()", "change(2, 2, 0)", "put(1, 0, 0)");
        for (String change : same) {
            row(still, "count(4)", 10, change, still.ask(change), "count(4)", 11, "undo()", 10, "undo()", 9,
                    "its(1, 10)", 4, "its(2, 2)", 0, "undo()", 8, "its(2, 2)", 1);
        }
    }

    /** The latest 30 can be undone; the 31st that is made takes the first one's place. */
    private static void thirty() {
        promise(39);
        for (int made = 0; made <= 35; made++) {
            Run run = new Run("pupil(0, 0, 0)").then(Starts.changesOfAway(0, made));
            int can = Math.min(30, made + 1);
            SectionOffice x = run.made();
            Checks.same(made + " changes: count(4)", x.count(4), can);
            for (int undone = 1; undone <= can; undone++) {
                Checks.same(made + " changes, " + undone + " undone", x.undo(), can - undone);
                Checks.same(made + " changes, " + undone + " undone: away", x.its(0, 1),
                        made - undone >= 0 ? made - undone : LOW - BEYOND);
            }
            Checks.same(made + " changes, all undone", x.undo(), LOW - NONE);
            Checks.same(made + " changes, all undone: pupils", x.count(0), made < 30 ? 0 : 1);
        }
    }

    /** To its last call an object does what it did at first. */
    private static void to512() {
        promise(39);
        SectionOffice x = new SectionOffice();
        Checks.same("call 1", x.pupil(0, 0, 0), 0);
        for (int call = 2; call <= 450; call++) {
            Checks.same("call " + call, x.change(0, 1, call), call == 2 ? 0 : call - 1);
        }
        Checks.same("call 451", x.count(4), 30);
        for (int i = 1; i <= 30; i++) {
            Checks.same("undo " + i, x.undo(), 30 - i);
            Checks.same("away after undo " + i, x.its(0, 1), 450 - i);
        }
        Checks.same("call 512", x.undo(), LOW - NONE);
    }

    /** What is undone is gone: a new change stands in its place. */
    private static void upAndDown() {
        promise(39);
        Run full = new Run("pupil(0, 0, 0)").then(Starts.changesOfAway(0, 40));
        row(full, "undo()", 29, "undo()", 28, "its(0, 1)", 38, "change(0, 1, 99)", 38, "count(4)", 29,
                "change(0, 1, 98)", 99, "count(4)", 30, "change(0, 1, 97)", 98, "count(4)", 30, "undo()", 29,
                "its(0, 1)", 98, "undo()", 28, "its(0, 1)", 99, "undo()", 27, "its(0, 1)", 38, "undo()", 26,
                "its(0, 1)", 37);
        SectionOffice x = full.made();
        for (int i = 0; i < 50; i++) {
            Checks.same("a change", x.change(0, 1, 100 + i), 40);
            Checks.same("undone", x.undo(), 29);
        }
        for (int i = 1; i <= 29; i++) {
            Checks.same("undone", x.undo(), 29 - i);
            Checks.same("away", x.its(0, 1), 40 - i);
        }
        Checks.same("none", x.undo(), LOW - NONE);
        Checks.same("away", x.its(0, 1), 11);
    }

    private static void notUndone() {
        promise(39);
        Run late = SOME.then("loose(3)", "sheet(2, 0, 2)", "write(0, 3, 77)", "feed(0, 1)");
        row(late, "count(5)", late.ask("count(5)"), "undo()", 8, "count(5)", late.ask("count(5)"), "item(0, 3)", 77,
                "item(2, 1)", 0, "count(6)", 12, "undo()", 7, "count(5)", late.ask("count(5)"), "status(-1)", 1);
        Checks.same("z was drawn", late.ask("count(5)") == 5 ? 1 : 0, 0);
    }

    private static void undoFindings() {
        promise(39);
        refused(NEW, "undo()", NONE);
        Run gone = new Run("pupil(0, 0, 0)", "undo()");
        refused(gone, "undo()", NONE);
        row(gone, "undo()", LOW - NONE, "status(3)", 1, "undo()", LOW - NONE, "status(3)", 2, "pupil(1, 0, 0)", 0,
                "undo()", 0, "status(3)", 2, "undo()", LOW - NONE, "status(-1)", 3);
        row(SOME, "undo()", 7, "its(1, 10)", -1, "of(0, 0, 1, 4)", 0, "undo()", 6, "its(0, 10)", -1, "undo()", 5,
                "count(0)", 2, "undo()", 4, "undo()", 3, "count(0)", 0, "undo()", 2, "triples(0)", bits(0, 4),
                "undo()", 1, "triples(0)", bits(0), "undo()", 0, "count(1)", 0, "undo()", LOW - NONE);
    }

    private static void counts() {
        promise(40);
        edges(OFFICE, "count", "0", "0..7");
        long[] office = {5, 7, 4, 2 + 2 + 0 + 0 + 17, 30, -77, 19, 2 + 1 + 0 + 4 + 2};
        long[] some = {3, 3, 2, 1 + 1 + 20, 8, 5, 11, 1 + 3 + 1};
        for (int what = 0; what < 8; what++) {
            due(OFFICE, "count(" + what + ")", office[what]);
            due(SOME, "count(" + what + ")", some[what]);
        }
        Run full = NEW;
        for (int course = 0; course < 4; course++) {
            for (int part = 0; part < 6; part++) {
                full = full.then("section(" + course + ", " + part / 2 + ", " + part % 2 + ", {"
                        + (5 * course + part / 2) + "}, 9, -1)");
            }
        }
        row(full.then(Starts.pupils(6)), "count(1)", 24, "count(7)", 24, "count(2)", 0, "fill(0)", 24, "count(2)", 24,
                "count(7)", 0, "leave()", 5, "count(2)", 20, "shut(3, 0, 0)", 5, "count(2)", 15, "count(7)", 5,
                "count(1)", 23);
    }

    /** Pupils that sit in one triple count as many times as they are. */
    private static void countOfCosts() {
        promise(40);
        Run six = new Run("section(0, 0, 0, {0 3 8}, 9, -1)");
        for (int kind = 0; kind < 6; kind++) {
            six = six.then("pupil(" + kind + ", 0, 1)");
        }
        row(six, "count(3)", 20, "fill(0)", 6, "count(3)", 2 + 3 + 4 + (3 + 2) + (20 - 4) + 0, "count(2)", 6);
    }

    private static void status() {
        promise(41);
        edges(OFFICE, "status", "0", "-1..7");
        long[] office = {1, 1, 1, 1, 1, 2, 1, 0};
        for (int k = 0; k < 8; k++) {
            due(OFFICE, "status(" + k + ")", office[k]);
            due(NEW, "status(" + k + ")", 0);
        }
        due(OFFICE, "status(-1)", 8);
        row(NEW, "status(8)", LOW - BEYOND, "status(0)", 1, "status(-2)", LOW - BEYOND, "status(0)", 2, "status(-1)", 2,
                "status(-1)", 2, "status(MIN)", LOW - BEYOND, "status(MAX)", LOW - BEYOND, "status(-1)", 4,
                "status(7)", 0, "pupil(0, 0, 0)", 0, "undo()", 0, "status(-1)", 4);
    }

    /** Findings of all acts are counted, of those too that answer longs; a fault and an order left out are none. */
    private static void statusOfEach() {
        promise(41);
        row(NEW, "ways(4)", LONG_LOW - BEYOND, "status(0)", 1, "item(0, 0)", LONG_LOW - MISSING, "status(5)", 1,
                "item(4, 0)", LONG_LOW - BEYOND, "status(0)", 2, "tell 'x'", -1, "status(-1)", 3, "leave()", LOW - NONE,
                "status(3)", 1, "sheet(0, 0, -1)", LOW - SIZE, "status(6)", 1, "sheet(0, 0, 9)", 9, "orders(0)", 0,
                "loose(5)", 0, "fill(0)", 0, "status(-1)", 5);
        row(SOME, "would(2, 1, 0)", LOW - NONE, "status(3)", 1, "would(1, 2, 0)", LOW - STATE, "status(4)", 1,
                "chain(0, 0)", LOW - STATE, "status(4)", 2, "as(0, 5)", LOW - KIND, "status(2)", 1, "status(-1)", 5);
    }
}
