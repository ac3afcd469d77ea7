/** Edges of promises 8 to 15: pupils, what a week costs them, what fits and why another doesn't. */
final class PupilEdges extends Edges {
    private static final int ALL_HOURS = (1 << 20) - 1;
    private static final String[] UNDER = {"100000", "110000", "101000", "110100", "101010", "100001"};

    @Override
    void run() {
        pupil();
        leave();
        its();
        cost();
        change();
        changeOfAway();
        changeOfWishes();
        as();
        fits();
        fitsBySeats();
        why();
        both();
    }

    private static void pupil() {
        promise(8);
        edges(OFFICE, "pupil", "0 0 0", "0..5 0..1048575 0..15");
        refused(OFFICE, "pupil(0, {20}, 0)", BEYOND);
        due(OFFICE, "pupil(5, " + ALL_HOURS + ", 15)", 5);
        Run five = NEW.then(Starts.pupils(5));
        due(NEW, "pupil(0, 0, 0)", 0);
        due(five, "pupil(0, 0, 0)", 5);
        Run six = NEW.then(Starts.pupils(6));
        refused(six, "pupil(0, 0, 0)", FULL);
        refused(OFFICE.then("pupil(0, 0, 0)"), "pupil(5, 1, 1)", FULL);
        edges(six, "pupil", "0 0 0", "0..5 0..1048575 0..15");
        due(six.then("leave()"), "pupil(0, 0, 0)", 5);
        due(six.then("undo()"), "pupil(0, 0, 0)", 5);
        row(NEW, "pupil(4, {0 19}, 9)", 0, "its(0, 0)", 4, "its(0, 1)", bits(0, 19), "its(0, 2)", 9, "its(0, 3)", 0,
                "its(0, 4)", 20, "its(0, 5)", 0, "its(0, 10)", -1, "its(0, 11)", -1, "its(0, 12)", -1,
                "its(0, 13)", -1, "count(0)", 1);
    }

    private static void leave() {
        promise(9);
        refused(NEW, "leave()", NONE);
        row(NEW.then(Starts.pupils(6)), "leave()", 5, "leave()", 4, "leave()", 3, "leave()", 2, "leave()", 1,
                "leave()", 0, "leave()", LOW - NONE);
        refused(OFFICE.then("leave()", "leave()", "leave()", "leave()", "leave()"), "leave()", NONE);
        row(OFFICE, "leave()", 4, "of(2, 0, 1, 4)", 0, "its(4, 0)", LOW - BEYOND, "its(0, 10)", 0, "count(2)", 3,
                "pupil(0, 0, 15)", 4, "its(4, 12)", -1, "its(4, 2)", 15, "its(4, 1)", 0);
        row(Starts.whole(1, 2).then("put(1, 0, 0)"), "fits(0, 0)", bits(7), "leave()", 1, "fits(0, 0)", 255);
    }

    private static void its() {
        promise(10);
        edges(OFFICE, "its", "0 0", "0..4 0..5");
        for (int what : new int[] {10, 11, 12, 13}) {
            edges(OFFICE, "its", "0 " + what, "0..4 *");
        }
        for (int what : new int[] {6, 7, 8, 9, 14, 15}) {
            refused(OFFICE, "its(0, " + what + ")", BEYOND);
        }
        row(OFFICE, "its(0, 0)", 0, "its(0, 1)", bits(10), "its(0, 2)", 15, "its(0, 3)", bits(0, 2, 4, 5, 6),
                "its(0, 4)", 2, "its(0, 5)", 2, "its(0, 10)", 0, "its(0, 11)", 1, "its(0, 12)", -1, "its(0, 13)", -1);
        row(OFFICE, "its(4, 0)", 4, "its(4, 3)", bits(8, 19), "its(4, 4)", 20 - 3, "its(4, 5)", 1, "its(4, 12)", 4);
        row(OFFICE, "its(2, 0)", 3, "its(2, 2)", 0, "its(2, 3)", 0, "its(2, 4)", 0, "its(2, 5)", 0);
        Run all = NEW;
        for (int course = 0; course < 4; course++) {
            all = all.then("section(" + course + ", 0, 1, {" + (6 * course + 1) + "}, 1, -1)");
        }
        row(all.then("pupil(0, 0, 15)", "fill(0)"), "its(0, 5)", 4, "its(0, 13)", 4, "its(0, 3)", bits(1, 7, 13, 19),
                "its(0, 4)", 4, "count(2)", 4, "count(7)", 0);
    }

    /** Each kind with each hour alone, with none and with all. */
    private static void cost() {
        promise(10);
        for (int kind = 0; kind < 6; kind++) {
            for (int hour = 0; hour < 20; hour++) {
                int early = 1 + (hour % 4 == 3 ? 1 : 0);
                int late = 1 + (hour % 4 == 0 ? 1 : 0);
                int two = hour >= 8 && hour <= 11 ? 2 : 0;
                costs(kind, "{" + hour + "}", 1, early, late, early + two);
            }
            costs(kind, "{}", 0, 0, 0, 0);
            costs(kind, "" + ALL_HOURS, 5, 10, 10, 18);
            costs(kind, "{3 4}", 2, 3, 3, 3);
            costs(kind, "{0 1 2 3}", 1, 2, 2, 2);
            costs(kind, "{7 8 11 12}", 3, 5, 5, 9);
            costs(kind, "{15 16 19}", 2, 4, 3, 4);
        }
    }

    private static void costs(int kind, String hours, int pupil, int early, int late, int athlete) {
        int[] costs = {pupil, early, late, athlete, 20 - late, 0};
        for (int course = 0; course < 4; course++) {
            Run sits = new Run("section(" + course + ", 0, 0, " + hours + ", 1, -1)", "pupil(" + kind + ", 0, 15)",
                    "put(0, " + course + ", 0)");
            due(sits, "its(0, 4)", costs[kind]);
            due(sits, "count(3)", costs[kind]);
            for (int as = 0; as < 6; as++) {
                due(sits, "as(0, " + as + ")", UNDER[kind].charAt(as) == '1' ? costs[as] : LOW - KIND);
            }
        }
    }

    private static void change() {
        promise(11);
        edges(OFFICE, "change", "2 0 0", "0..4 0..2 0..5");
        edges(OFFICE, "change", "2 1 0", "0..4 0..2 0..1048575");
        edges(OFFICE, "change", "2 2 0", "0..4 0..2 0..15");
        refused(OFFICE, "change(2, 1, {20})", BEYOND);
        row(OFFICE, "change(0, 0, 5)", 0, "its(0, 0)", 5, "change(0, 0, 5)", 5, "its(0, 10)", 0, "its(0, 11)", 1,
                "change(0, 0, 0)", 5, "its(0, 1)", bits(10), "its(0, 2)", 15);
        row(OFFICE, "change(0, 1, 0)", bits(10), "its(0, 1)", 0, "its(0, 0)", 0, "its(0, 2)", 15, "its(0, 10)", 0);
        row(OFFICE, "change(3, 2, 1)", 15, "change(3, 2, 0)", 1, "its(3, 2)", 0, "its(3, 1)", bits(0, 4, 8));
        due(OFFICE.then("change(0, 0, 1)"), "its(0, 0)", 1);
        due(OFFICE, "change(0, 2, 15)", 15);
    }

    private static void changeOfAway() {
        promise(11);
        int busy = bits(0, 2, 4, 5, 6);
        for (int hour = 0; hour < 20; hour++) {
            if ((busy >> hour & 1) != 0) {
                refused(OFFICE, "change(0, 1, {" + hour + "})", STATE);
                refused(OFFICE, "change(0, 1, {10 " + hour + "})", STATE);
            } else {
                due(OFFICE, "change(0, 1, {" + hour + "})", bits(10));
            }
        }
        refused(OFFICE, "change(0, 1, " + ALL_HOURS + ")", STATE);
        due(OFFICE, "change(0, 1, " + (ALL_HOURS & ~busy) + ")", bits(10));
        refused(OFFICE, "change(0, 1, {0 20})", BEYOND);
        refused(OFFICE, "change(0, 1, {0 31})", BEYOND);
        due(OFFICE.then("out(0, 1)"), "change(0, 1, {4 5 6})", bits(10));
        due(OFFICE, "change(4, 1, {0 2 4 5 6})", 0);
    }

    private static void changeOfWishes() {
        promise(11);
        for (int wishes = 0; wishes < 16; wishes++) {
            row(OFFICE, "change(0, 2, " + wishes + ")", 15, "its(0, 2)", wishes,
                    "its(0, 10)", (wishes & 1) != 0 ? 0 : -1, "its(0, 11)", (wishes & 2) != 0 ? 1 : -1,
                    "its(0, 5)", Integer.bitCount(wishes & 3), "its(1, 10)", 6);
        }
        row(OFFICE, "change(0, 2, 0)", 15, "change(0, 2, 15)", 0, "its(0, 10)", -1, "its(0, 3)", 0,
                "of(0, 1, 0, 5)", 1, "change(0, 1, {0 2 4 5 6})", bits(10));
    }

    private static void as() {
        promise(12);
        edges(OFFICE, "as", "0 0", "0..4 0..5");
        for (int pupil = 0; pupil < 5; pupil++) {
            edges(OFFICE, "as", pupil + " 0", "* 0..5");
        }
        int[] kinds = {0, 1, 3, 2, 4};
        for (int pupil = 0; pupil < 5; pupil++) {
            for (int kind = 0; kind < 6; kind++) {
                if (UNDER[kinds[pupil]].charAt(kind) == '0') {
                    refused(OFFICE, "as(" + pupil + ", " + kind + ")", KIND);
                }
            }
        }
        row(OFFICE, "as(4, 0)", 2, "as(4, 2)", 3, "as(4, 4)", 17, "as(2, 3)", 0, "as(2, 1)", 0);
    }

    private static void fits() {
        promise(13);
        edges(OFFICE, "fits", "0 0", "0..4 0..3");
        for (int course = 0; course < 4; course++) {
            refused(OFFICE, "fits(2, " + course + ")", NONE);
        }
        refused(OFFICE, "fits(1, 2)", NONE);
        refused(OFFICE, "fits(1, 3)", NONE);
        refused(OFFICE, "fits(4, 3)", NONE);
        due(OFFICE, "fits(0, 3)", 0);
        due(OFFICE, "fits(0, 0)", bits(0, 4, 6));
        due(OFFICE, "fits(1, 0)", bits(6));
        due(OFFICE, "fits(3, 0)", bits(6));
        due(OFFICE, "fits(4, 0)", bits(6));
        due(OFFICE, "fits(4, 1)", 0);
        due(OFFICE, "fits(0, 1)", bits(1));
        due(OFFICE, "fits(3, 2)", 0);
        due(OFFICE.then("change(3, 1, {7 9 18})"), "fits(3, 2)", bits(4));
        due(OFFICE.then("change(3, 1, {19})"), "fits(3, 2)", 0);
        Run other = Starts.whole(9, 1).then("section(1, 0, 0, {0 5}, 9, -1)", "section(1, 0, 1, {6}, 9, -1)");
        due(other.then("put(0, 1, 0)"), "fits(0, 0)", bits(4, 6));
        due(other.then("put(0, 1, 4)"), "fits(0, 0)", 255);
        due(other.then("put(0, 0, 7)"), "fits(0, 1)", bits(4));
        due(other.then("put(0, 0, 6)"), "fits(0, 1)", bits(0, 4));
    }

    private static void fitsBySeats() {
        promise(13);
        Run none = Starts.whole(0, 1);
        due(none, "fits(0, 0)", 0);
        due(none, "why(0, 0, 1)", 255);
        for (int part = 0; part < 6; part++) {
            int with = 0;
            for (int triple = 0; triple < 8; triple++) {
                with |= (triple >> 2 - part / 2 & 1) == part % 2 ? 1 << triple : 0;
            }
            String one = "section(0, " + part / 2 + ", " + part % 2 + ", {" + part + "}, 1, -1)";
            String zero = "section(0, " + part / 2 + ", " + part % 2 + ", {" + part + "}, 0, -1)";
            int other = part % 2 == 0 ? 0 : 7;
            Run two = Starts.whole(2, 3);
            due(two.then(one), "fits(0, 0)", 255);
            due(two.then(zero), "fits(0, 0)", 255 & ~with);
            due(two.then(zero), "why(0, 0, 1)", with);
            due(two.then(one, "put(2, 0, " + other + ")"), "fits(0, 0)", 255 & ~with);
            due(two.then(one, "put(2, 0, " + other + ")"), "fits(2, 0)", 255);
            due(two.then(one, "put(2, 0, " + other + ")"), "why(2, 0, 1)", 0);
        }
        Run bare = new Run("section(0, 0, 0, {0}, 1, -1)", "pupil(0, 0, 1)", "pupil(0, 0, 1)");
        due(bare, "fits(0, 0)", bits(0));
        due(bare.then("put(0, 0, 0)"), "fits(0, 0)", bits(0));
        due(bare.then("put(0, 0, 0)"), "fits(1, 0)", 0);
    }

    private static void why() {
        promise(14);
        edges(OFFICE, "why", "0 0 0", "0..4 0..3 0..1");
        edges(OFFICE, "why", "2 0 0", "0..4 * 0..1");
        for (int course = 0; course < 4; course++) {
            refused(OFFICE, "why(2, " + course + ", 0)", NONE);
            refused(OFFICE, "why(2, " + course + ", 1)", NONE);
        }
        due(OFFICE, "why(0, 0, 0)", 0);
        due(OFFICE, "why(0, 0, 1)", 0);
        due(OFFICE, "why(3, 0, 0)", bits(0));
        due(OFFICE, "why(3, 0, 1)", bits(4));
        due(OFFICE, "why(4, 0, 0)", 0);
        due(OFFICE, "why(4, 0, 1)", bits(0, 4));
        due(OFFICE, "why(1, 1, 0)", 0);
        due(OFFICE, "why(1, 1, 1)", bits(1));
        due(OFFICE, "why(3, 1, 0)", bits(1));
        due(OFFICE, "why(3, 1, 1)", 0);
        due(OFFICE, "why(0, 3, 0)", 0);
        due(OFFICE, "why(0, 3, 1)", 0);
        Run busy = Starts.whole(1, 2).then("section(1, 0, 0, {0}, 9, -1)", "put(0, 1, 0)", "put(1, 0, 7)");
        due(busy, "why(0, 0, 0)", bits(0, 1, 2, 3));
        due(busy, "why(0, 0, 1)", bits(4, 5, 6, 7));
        due(busy, "why(1, 1, 0)", 0);
        due(busy, "fits(0, 0)", 0);
    }

    private static void both() {
        promise(15);
        edges(OFFICE, "both", "2 1", "0..4 0..4");
        for (int pupil = 0; pupil < 5; pupil++) {
            refused(OFFICE, "both(" + pupil + ", " + pupil + ")", BEYOND);
        }
        refused(OFFICE, "both(5, 5)", BEYOND);
        due(OFFICE, "both(0, 1)", 0);
        due(OFFICE, "both(2, 3)", 0);
        Run two = Starts.whole(9, 6).then("section(1, 0, 0, {19}, 9, -1)", "put(0, 0, 0)", "put(5, 0, 2)",
                "put(0, 1, 0)", "put(5, 1, 0)");
        due(two, "both(0, 5)", bits(0, 4, 19));
        due(two, "both(5, 0)", bits(0, 4, 19));
        due(two.then("change(3, 1, {0})"), "both(0, 3)", 0);
    }
}
