/** Edges of promises 16 to 21: put, taken out, picked by rules, all filled, traded. */
final class PutEdges extends Edges {
    @Override
    void run() {
        put();
        putByHours();
        putBySeats();
        out();
        pickAndWould("pick", 18);
        pickAndWould("would", 19);
        picked();
        wouldChangesNothing();
        anyRule();
        leastCost();
        leastTaken();
        mostLeft();
        fewestHours();
        fill();
        fillByRules();
        trade();
        tradeOfHours();
    }

    private static void put() {
        promise(16);
        edges(OFFICE, "put", "0 0 0", "0..4 0..3 0..7");
        edges(OFFICE, "put", "2 0 0", "0..4 0..3 0..7");
        for (int course = 0; course < 4; course++) {
            refused(OFFICE, "put(2, " + course + ", 0)", NONE);
            refused(OFFICE, "put(2, " + course + ", 7)", NONE);
        }
        refused(OFFICE, "put(1, 2, 4)", NONE);
        for (int triple = 0; triple < 8; triple++) {
            refused(OFFICE, "put(0, 3, " + triple + ")", STATE);
            if (triple != 0 && triple != 4 && triple != 6) {
                refused(OFFICE, "put(0, 0, " + triple + ")", STATE);
            }
        }
        row(OFFICE, "put(0, 0, 6)", 0, "put(0, 0, 4)", 6, "put(0, 0, 4)", 4, "put(0, 0, 0)", 4, "its(0, 5)", 2,
                "of(0, 1, 0, 4)", 1, "of(0, 1, 1, 4)", 1, "of(0, 0, 1, 4)", 1);
        row(OFFICE, "put(4, 0, 6)", -1, "its(4, 10)", 6, "its(4, 3)", bits(1, 3, 8, 19), "count(2)", 5);
        for (int triple = 0; triple < 8; triple++) {
            row(Starts.whole(1, 1), "put(0, 0, " + triple + ")", -1, "its(0, 10)", triple,
                    "of(0, 0, " + (triple >> 2) + ", 5)", 0, "of(0, 1, " + (triple >> 1 & 1) + ", 5)", 0,
                    "of(0, 2, " + (triple & 1) + ", 5)", 0, "uneven(0)", 3);
        }
    }

    private static void putByHours() {
        promise(16);
        refused(OFFICE, "put(3, 0, 0)", STATE);
        refused(OFFICE, "put(3, 1, 1)", STATE);
        refused(OFFICE, "put(3, 2, 4)", STATE);
        due(OFFICE, "put(3, 0, 6)", -1);
        due(OFFICE.then("change(3, 1, {7 9 18})"), "put(3, 2, 4)", -1);
        refused(OFFICE.then("change(3, 1, {19})"), "put(3, 2, 4)", STATE);
        Run busy = OFFICE.then("section(3, 0, 0, {7}, 9, -1)", "section(3, 0, 1, {6}, 9, -1)");
        due(busy, "put(0, 3, 0)", -1);
        refused(busy, "put(0, 3, 4)", STATE);
        due(busy.then("out(0, 1)"), "put(0, 3, 4)", -1);
        due(busy, "put(3, 3, 4)", -1);
    }

    private static void putBySeats() {
        promise(16);
        refused(OFFICE, "put(4, 0, 0)", STATE);
        refused(OFFICE, "put(4, 0, 4)", STATE);
        refused(OFFICE, "put(1, 1, 1)", STATE);
        due(OFFICE.then("out(0, 0)"), "put(4, 0, 0)", -1);
        due(OFFICE.then("out(0, 1)"), "put(1, 1, 1)", -1);
        refused(Starts.whole(0, 1), "put(0, 0, 0)", STATE);
        for (int cap = 1; cap <= 5; cap++) {
            Run some = Starts.whole(cap, 6);
            for (int i = 0; i < cap; i++) {
                due(some, "put(" + i + ", 0, 3)", -1);
                some = some.then("put(" + i + ", 0, 3)");
            }
            refused(some, "put(5, 0, 3)", STATE);
            refused(some, "put(5, 0, 0)", STATE);
            due(some, "put(5, 0, 4)", -1);
            due(some, "put(0, 0, 3)", 3);
        }
    }

    private static void out() {
        promise(17);
        edges(OFFICE, "out", "0 0", "0..4 0..3");
        refused(OFFICE, "out(0, 2)", NONE);
        refused(OFFICE, "out(0, 3)", NONE);
        refused(OFFICE, "out(1, 1)", NONE);
        refused(OFFICE, "out(1, 2)", NONE);
        for (int course = 0; course < 4; course++) {
            refused(OFFICE, "out(2, " + course + ")", NONE);
            refused(OFFICE, "out(3, " + course + ")", NONE);
        }
        row(OFFICE, "out(0, 1)", 1, "out(0, 1)", LOW - NONE, "its(0, 11)", -1, "its(0, 10)", 0, "of(1, 0, 0, 4)", 0,
                "its(0, 2)", 15, "out(0, 0)", 0, "its(0, 5)", 0, "count(2)", 2, "out(1, 0)", 6);
    }

    /** Both acts have the same findings; only pick() changes anything. */
    private static void pickAndWould(String act, int number) {
        promise(number);
        edges(OFFICE, act, "0 0 0", "0..4 0..3 0..4");
        edges(OFFICE, act, "2 0 0", "0..4 0..3 0..4");
        for (int rule = 0; rule < 5; rule++) {
            refused(OFFICE, act + "(2, 0, " + rule + ")", NONE);
            refused(OFFICE, act + "(2, 3, " + rule + ")", NONE);
            refused(OFFICE, act + "(1, 2, " + rule + ")", NONE);
            refused(OFFICE, act + "(0, 3, " + rule + ")", STATE);
            refused(OFFICE, act + "(1, 1, " + rule + ")", STATE);
            refused(OFFICE, act + "(3, 1, " + rule + ")", STATE);
            refused(OFFICE, act + "(3, 2, " + rule + ")", STATE);
            due(OFFICE, act + "(0, 1, " + rule + ")", 1);
            due(OFFICE, act + "(4, 0, " + rule + ")", 6);
            refused(Starts.whole(0, 1), act + "(0, 0, " + rule + ")", STATE);
            due(Starts.whole(1, 1).then("put(0, 0, 7)"), act + "(0, 0, " + rule + ")", 0);
        }
    }

    private static void picked() {
        promise(18);
        row(OFFICE, "pick(4, 0, 0)", 6, "its(4, 10)", 6, "of(0, 1, 1, 5)", 0, "pick(3, 0, 0)", LOW - STATE);
        row(OFFICE, "pick(0, 0, 2)", 0, "its(0, 10)", 0, "its(0, 11)", 1);
        row(Starts.whole(1, 2).then("put(0, 0, 5)"), "pick(0, 0, 0)", 0, "its(0, 10)", 0, "of(0, 0, 1, 4)", 0,
                "pick(1, 0, 0)", 7);
    }

    private static void wouldChangesNothing() {
        promise(19);
        for (int rule = 0; rule < 5; rule++) {
            Checks.unchanged(OFFICE, "would(0, 0, " + rule + ")");
            Checks.unchanged(OFFICE, "would(4, 0, " + rule + ")");
            due(OFFICE.then("would(4, 0, " + rule + ")"), "status(-1)", OFFICE.ask("status(-1)"));
        }
    }

    private static void anyRule() {
        promise(18);
        due(Starts.whole(9, 1), "pick(0, 0, 0)", 0);
        Run seven = Starts.whole(9, 1).then("change(0, 1, {0 2 4})");
        for (int rule = 0; rule < 5; rule++) {
            due(seven, "pick(0, 0, " + rule + ")", 7);
            due(Starts.whole(9, 1), "would(0, 0, " + rule + ")", 0);
        }
    }

    /** Rule 1: of the whole week, as one of its kind has it; of like ones the least number. */
    private static void leastCost() {
        promise(18);
        Run two = new Run("section(0, 0, 0, {4}, 9, -1)", "section(0, 0, 1, {3}, 9, -1)",
                "section(1, 0, 0, {1}, 9, -1)", "section(1, 0, 1, {5}, 9, -1)");
        int[] alone = {0, 0, 4, 0, 0, 0};
        int[] withDayZero = {4, 0, 4, 0, 0, 0};
        int[] withDayOne = {0, 0, 0, 0, 0, 0};
        for (int kind = 0; kind < 6; kind++) {
            Run one = two.then("pupil(" + kind + ", 0, 3)");
            due(one, "pick(0, 0, 1)", alone[kind]);
            due(one.then("put(0, 1, 0)"), "pick(0, 0, 1)", withDayZero[kind]);
            due(one.then("put(0, 1, 4)"), "pick(0, 0, 1)", withDayOne[kind]);
            due(one.then("put(0, 1, 4)", "put(0, 0, 0)"), "pick(0, 0, 1)", withDayOne[kind]);
        }
        Run first = new Run("section(0, 0, 0, {1}, 9, -1)", "section(0, 0, 1, {4}, 9, -1)");
        due(first.then("pupil(4, 0, 1)"), "pick(0, 0, 1)", 4);
        due(first.then("pupil(2, 0, 1)"), "pick(0, 0, 1)", 0);
        Run athlete = new Run("section(0, 0, 0, {8}, 9, -1)", "section(0, 0, 1, {7 13}, 9, -1)", "pupil(3, 0, 1)");
        due(athlete, "pick(0, 0, 1)", 0);
        due(athlete.then("section(0, 0, 0, {8 9}, 9, -1)"), "pick(0, 0, 1)", 4);
        due(athlete.then("section(0, 0, 1, {12 16}, 9, -1)"), "pick(0, 0, 1)", 4);
    }

    /** Rule 2: the fullest of its sections counts, the pupil itself left out. */
    private static void leastTaken() {
        promise(18);
        Run six = Starts.whole(9, 6);
        due(six.then("put(1, 0, 0)"), "pick(0, 0, 2)", 7);
        due(six.then("put(1, 0, 7)"), "pick(0, 0, 2)", 0);
        due(six.then("put(1, 0, 1)"), "pick(0, 0, 2)", 6);
        due(six.then("put(1, 0, 0)", "put(2, 0, 7)"), "pick(0, 0, 2)", 0);
        due(six.then("put(1, 0, 0)", "put(2, 0, 6)"), "pick(0, 0, 2)", 1);
        due(six.then("put(1, 0, 0)", "put(2, 0, 6)", "put(3, 0, 1)"), "pick(0, 0, 2)", 7);
        due(six.then("put(0, 0, 0)"), "pick(0, 0, 2)", 0);
        due(six.then("put(0, 0, 7)"), "pick(0, 0, 2)", 0);
        Run beside = six.then(Starts.sections(1, 1)).then("put(1, 0, 0)", "put(2, 0, 7)", "put(3, 0, 3)");
        due(beside, "pick(0, 0, 2)", 4);
        due(beside, "pick(0, 0, 3)", 4);
        Run bare = new Run("section(0, 0, 0, {0}, 9, -1)", "section(0, 0, 1, {1}, 1, -1)").then(Starts.pupils(3));
        due(bare.then("put(1, 0, 0)"), "pick(0, 0, 2)", 4);
        due(bare.then("put(1, 0, 0)", "put(2, 0, 4)"), "pick(0, 0, 2)", 0);
        due(bare.then("put(1, 0, 0)", "put(2, 0, 0)", "put(0, 0, 4)"), "pick(0, 0, 2)", 4);
    }

    /** Rule 3: the section with fewest seats left counts, the pupil itself left out. */
    private static void mostLeft() {
        promise(18);
        Run six = Starts.whole(5, 6);
        due(six, "pick(0, 0, 3)", 0);
        due(six.then("put(1, 0, 0)"), "pick(0, 0, 3)", 7);
        due(six.then("put(0, 0, 0)"), "pick(0, 0, 3)", 0);
        for (int part = 0; part < 6; part++) {
            String narrow = "section(0, " + part / 2 + ", " + part % 2 + ", {" + part + "}, 4, -1)";
            due(six.then(narrow), "pick(0, 0, 3)", part % 2 == 0 ? 4 >> part / 2 : 0);
        }
        Run bare = new Run("section(0, 0, 0, {0}, 3, -1)", "section(0, 0, 1, {1}, 2, -1)").then(Starts.pupils(3));
        due(bare, "pick(0, 0, 3)", 0);
        due(bare.then("put(1, 0, 0)"), "pick(0, 0, 3)", 0);
        due(bare.then("put(1, 0, 0)", "put(2, 0, 0)"), "pick(0, 0, 3)", 4);
        due(bare.then("put(1, 0, 0)", "put(0, 0, 0)"), "pick(0, 0, 3)", 0);
        due(new Run("section(0, 0, 0, {0}, 8, -1)", "section(0, 0, 1, {1}, 9, -1)", "pupil(0, 0, 1)"),
                "pick(0, 0, 3)", 4);
    }

    private static void fewestHours() {
        promise(18);
        Run two = new Run("section(0, 0, 0, {0 1 2}, 9, -1)", "pupil(0, 0, 1)");
        due(two.then("section(0, 0, 1, {4 9}, 9, -1)"), "pick(0, 0, 4)", 4);
        due(two.then("section(0, 0, 1, {4 9 19}, 9, -1)"), "pick(0, 0, 4)", 0);
        due(two.then("section(0, 0, 1, {4 9 15 19}, 9, -1)"), "pick(0, 0, 4)", 0);
        due(two.then("section(0, 0, 1, 0, 9, -1)"), "pick(0, 0, 4)", 4);
        Run linked = new Run("section(0, 0, 0, {0}, 9, -1)", "section(0, 0, 1, {1 2}, 9, -1)",
                "section(0, 1, 0, {4 5}, 9, 0)", "section(0, 1, 1, {6}, 9, 1)", "pupil(0, 0, 1)");
        due(linked, "pick(0, 0, 4)", 0);
        due(linked.then("section(0, 1, 0, {4 5 7}, 9, 0)"), "pick(0, 0, 4)", 6);
    }

    private static void fill() {
        promise(20);
        edges(OFFICE, "fill", "0", "0..4");
        row(NEW, "fill(4)", 0, "count(4)", 1);
        row(OFFICE, "fill(0)", 2, "its(0, 12)", 4, "its(3, 10)", 6, "its(4, 10)", -1, "its(0, 10)", 0,
                "its(1, 11)", -1, "its(2, 5)", 0, "fill(0)", 0, "status(-1)", OFFICE.ask("status(-1)"));
        Run one = new Run("section(0, 0, 0, {0}, 1, -1)", "section(1, 0, 0, {0}, 1, -1)",
                "section(3, 0, 0, {0}, 1, -1)").then(Starts.pupils(6));
        row(one, "fill(0)", 3, "its(0, 10)", 0, "its(0, 11)", -1, "its(1, 11)", 0, "its(1, 10)", -1, "its(2, 13)", 0,
                "its(3, 5)", 0, "count(7)", 24 - 3);
        row(Starts.whole(6, 6), "fill(0)", 6, "of(0, 0, 0, 5)", 0, "fill(0)", 0);
        row(Starts.whole(5, 6), "fill(0)", 6, "its(4, 10)", 0, "its(5, 10)", 7);
        row(Starts.whole(0, 6), "fill(0)", 0);
        row(Starts.whole(1, 3).then("change(1, 2, 14)"), "fill(0)", 2, "its(1, 10)", -1, "its(2, 10)", 7);
    }

    private static void fillByRules() {
        promise(20);
        Run three = Starts.whole(9, 3).then("section(0, 0, 0, {0 1}, 9, -1)", "section(0, 1, 0, {2 8}, 9, -1)",
                "section(0, 2, 1, {5}, 8, -1)");
        int[][] seats = {{0, 0, 0}, {2, 2, 2}, {0, 7, 0}, {0, 0, 7}, {6, 6, 6}};
        for (int rule = 0; rule < 5; rule++) {
            row(three, "fill(" + rule + ")", 3, "its(0, 10)", seats[rule][0], "its(1, 10)", seats[rule][1],
                    "its(2, 10)", seats[rule][2]);
        }
    }

    private static void trade() {
        promise(21);
        Run two = OFFICE.then("put(4, 0, 6)");
        edges(two, "trade", "0 1 0", "0..4 * 0..3");
        edges(two, "trade", "1 0 0", "* 0..4 0..3");
        for (int pupil = 0; pupil < 6; pupil++) {
            refused(two, "trade(" + pupil + ", " + pupil + ", 0)", BEYOND);
        }
        refused(two, "trade(2, 2, 0)", BEYOND);
        refused(two, "trade(0, 2, 0)", NONE);
        refused(two, "trade(2, 0, 0)", NONE);
        refused(two, "trade(2, 3, 0)", NONE);
        refused(two, "trade(3, 0, 0)", NONE);
        refused(two, "trade(0, 3, 0)", NONE);
        refused(two, "trade(0, 4, 1)", NONE);
        refused(two, "trade(0, 1, 2)", NONE);
        refused(two, "trade(0, 1, 0)", STATE);
        refused(two, "trade(1, 0, 0)", STATE);
        row(two, "trade(0, 4, 0)", 1, "its(0, 10)", 6, "its(4, 10)", 0, "its(0, 11)", 1, "its(4, 12)", 4,
                "of(0, 1, 0, 4)", 1, "of(0, 1, 1, 4)", 2, "trade(0, 4, 0)", 1, "its(0, 10)", 0, "its(4, 10)", 6);
        row(two, "trade(1, 4, 0)", 1, "its(1, 10)", 6, "its(4, 10)", 6, "count(4)", 30);
        row(Starts.whole(1, 2).then("put(0, 0, 2)", "put(1, 0, 5)"), "trade(1, 0, 0)", 1, "its(0, 10)", 5,
                "its(1, 10)", 2);
    }

    private static void tradeOfHours() {
        promise(21);
        Run two = Starts.whole(9, 2).then("put(0, 0, 0)", "put(1, 0, 7)", "section(1, 0, 0, {9}, 9, -1)");
        for (int hour = 0; hour < 7; hour++) {
            String away = "change(" + (hour % 2 == 0 ? 1 : 0) + ", 1, {" + hour + " 9})";
            if (hour < 6) {
                refused(two.then(away), "trade(0, 1, 0)", STATE);
                refused(two.then(away), "trade(1, 0, 0)", STATE);
            } else {
                due(two.then(away), "trade(0, 1, 0)", 1);
            }
        }
        for (int hour = 0; hour < 7; hour++) {
            Run busy = two.then("section(1, 0, 0, {" + hour + "}, 9, -1)", "put(" + (hour % 2 == 0 ? 1 : 0) + ", 1, 0)");
            if (hour < 6) {
                refused(busy, "trade(0, 1, 0)", STATE);
                refused(busy, "trade(1, 0, 0)", STATE);
            } else {
                due(busy, "trade(0, 1, 0)", 1);
            }
        }
    }
}
