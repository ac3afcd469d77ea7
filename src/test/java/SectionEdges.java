/** Edges of promises 1 to 7: a new object, sections, which triples are lawful. */
final class SectionEdges extends Edges {
    private static final int ALL_HOURS = (1 << 20) - 1;

    @Override
    void run() {
        newObject();
        objectsApart();
        section();
        everySetOfOpenSections();
        links();
        linkOfALecture();
        hoursInCommon();
        openedAnew();
        capsInUse();
        hoursInUse();
        lawInUse();
        others();
        shut();
        whoGoesOut();
        of();
        triplesAndTime();
        uneven();
    }

    private static void newObject() {
        promise(1);
        for (int what = 0; what < 8; what++) {
            due(NEW, "count(" + what + ")", what == 5 ? 1 : 0);
            due(NEW, "status(" + what + ")", 0);
        }
        due(NEW, "status(-1)", 0);
        for (int i = 0; i < 4; i++) {
            due(NEW, "triples(" + i + ")", 0);
            due(NEW, "uneven(" + i + ")", 0);
            due(NEW, "most(" + i + ")", 0);
            due(NEW, "seat(" + i + ")", 0);
            due(NEW, "evens(" + i + ")", 0);
            due(NEW, "ways(" + i + ")", 1);
            due(NEW, "item(" + i + ", 0)", LONG_LOW - MISSING);
            due(NEW, "orders(" + i + ")", LOW - MISSING);
        }
        for (int part = 0; part < 24; part++) {
            due(NEW, "of(" + part / 6 + ", " + part / 2 % 3 + ", " + part % 2 + ", 0)", 0);
        }
        for (String call : new String[] {"its(0, 0)", "change(0, 0, 0)", "as(0, 0)", "fits(0, 0)", "why(0, 0, 0)",
            "both(0, 1)", "put(0, 0, 0)", "out(0, 0)", "pick(0, 0, 0)", "would(0, 0, 0)", "trade(0, 1, 0)",
            "chain(0, 0)", "lets(0, 0)", "line(0, -1)"}) {
            refused(NEW, call, BEYOND);
        }
        refused(NEW, "leave()", NONE);
        refused(NEW, "undo()", NONE);
        due(NEW, "fill(0)", 0);
        due(NEW, "loose(20)", 0);
        due(NEW, "wipe()", 0);
        due(NEW, "text()", -1);
        due(NEW, "seed(9)", 1);
    }

    private static void objectsApart() {
        promise(1);
        OFFICE.made();
        row(NEW, "count(0)", 0, "count(1)", 0, "count(4)", 0, "count(5)", 1, "count(6)", 0, "status(-1)", 0);
    }

    private static void section() {
        promise(2);
        edges(NEW, "section", "0 1 0 1 1 -1", "0..3 0..2 0..1 0..1048575 0..9 -1..1");
        edges(OFFICE, "section", "3 0 1 1 1 -1", "0..3 0..2 0..1 0..1048575 0..9 -1..1");
        refused(OFFICE, "section(3, 0, 0, {20}, 1, -1)", BEYOND);
        refused(OFFICE, "section(3, 0, 0, {0 19 20}, 1, -1)", BEYOND);
        refused(OFFICE, "section(3, 0, 0, {31}, 1, -1)", BEYOND);
        row(NEW, "section(3, 0, 1, " + ALL_HOURS + ", 9, 1)", bits(4), "of(3, 0, 1, 1)", ALL_HOURS,
                "of(3, 0, 1, 2)", 9, "of(3, 0, 1, 3)", 1, "time(3, 4)", ALL_HOURS);
        row(NEW, "section(0, 0, 0, 0, 0, -1)", bits(0), "of(0, 0, 0, 1)", 0, "of(0, 0, 0, 2)", 0,
                "of(0, 0, 0, 3)", -1, "time(0, 0)", 0);
        for (String wrong : new String[] {"0, 0, 0, {20}, 2, -1", "0, 0, 0, -1, 2, -1", "0, 0, 0, {7}, -1, -1",
            "0, 0, 0, {7}, 10, -1", "0, 0, 0, {10}, 0, 2", "0, 0, 0, {10}, 0, -2"}) {
            refused(OFFICE, "section(" + wrong + ")", BEYOND);
        }
    }

    /** Each of 64 sets of open sections, whose hours are all unlike: any lecture, with any lab and drill that is open. */
    private static void everySetOfOpenSections() {
        promise(5);
        for (int open = 0; open < 64; open++) {
            Run run = NEW;
            for (int part = 0; part < 6; part++) {
                if ((open >> part & 1) != 0) {
                    run = run.then(Starts.sections(2, 0)[part]);
                }
            }
            int lawful = 0;
            for (int triple = 0; triple < 8; triple++) {
                boolean lecture = (open >> (triple >> 2) & 1) != 0;
                boolean lab = open(open >> 2 & 3, triple >> 1 & 1);
                boolean drill = open(open >> 4 & 3, triple & 1);
                lawful |= lecture && lab && drill ? 1 << triple : 0;
            }
            due(run, "triples(2)", lawful);
            due(run, "triples(1)", 0);
            due(run, "count(1)", Integer.bitCount(open));
        }
    }

    private static boolean open(int two, int which) {
        return two == 0 ? which == 0 : (two >> which & 1) != 0;
    }

    private static void links() {
        promise(2);
        Run lectures = new Run("section(0, 0, 0, {0}, 1, -1)", "section(0, 0, 1, {1}, 1, -1)");
        int[] withLink = {bits(0, 4), bits(0), bits(4)};
        for (int lab = -1; lab <= 1; lab++) {
            due(lectures, "section(0, 1, 0, {2}, 1, " + lab + ")", withLink[lab + 1]);
            due(lectures, "section(0, 2, 0, {2}, 1, " + lab + ")", withLink[lab + 1]);
            due(lectures, "section(0, 1, 1, {2}, 1, " + lab + ")", withLink[lab + 1] << 2);
            due(lectures, "section(0, 2, 1, {2}, 1, " + lab + ")", withLink[lab + 1] << 1);
            for (int drill = -1; drill <= 1; drill++) {
                due(lectures.then("section(0, 1, 0, {2}, 1, " + lab + ")"), "section(0, 2, 0, {3}, 1, " + drill + ")",
                        withLink[lab + 1] & withLink[drill + 1]);
            }
        }
        due(lectures.then("section(0, 1, 0, {2}, 1, 1)"), "section(0, 1, 1, {3}, 1, 0)", bits(2, 4));
        due(new Run("section(0, 0, 0, {0}, 1, -1)"), "section(0, 1, 0, {2}, 1, 1)", 0);
        due(new Run("section(0, 0, 0, {0}, 1, -1)"), "section(0, 2, 1, {2}, 1, 1)", 0);
        due(new Run("section(0, 0, 1, {0}, 1, -1)"), "section(0, 1, 0, {2}, 1, 0)", 0);
    }

    private static void linkOfALecture() {
        promise(2);
        for (int link = -1; link <= 1; link++) {
            Run run = new Run("section(0, 1, 0, {2}, 1, -1)", "section(0, 2, 1, {3}, 1, -1)",
                    "section(0, 0, 0, {0}, 1, " + link + ")");
            due(run, "triples(0)", bits(1));
            due(run, "section(0, 0, 1, {0}, 1, " + link + ")", bits(1, 5));
            due(run, "of(0, 0, 0, 3)", link);
        }
    }

    private static void hoursInCommon() {
        promise(2);
        for (int hour : new int[] {0, 1, 3, 4, 18, 19}) {
            String at = "{" + hour + "}";
            String beside = "{" + (hour == 0 ? 1 : hour - 1) + "}";
            Run lecture = new Run("section(0, 0, 0, " + at + ", 1, -1)");
            due(lecture, "section(0, 1, 0, " + at + ", 1, -1)", 0);
            due(lecture, "section(0, 2, 0, " + at + ", 1, -1)", 0);
            due(lecture, "section(0, 1, 0, " + beside + ", 1, -1)", bits(0));
            due(lecture, "section(0, 2, 0, " + beside + ", 1, -1)", bits(0));
            due(lecture, "section(0, 0, 1, " + at + ", 1, -1)", bits(0, 4));
            due(lecture, "section(1, 0, 0, " + at + ", 1, -1)", bits(0));
            Run lab = new Run("section(0, 0, 0, {10}, 1, -1)", "section(0, 1, 0, " + at + ", 1, -1)");
            due(lab, "section(0, 2, 0, " + at + ", 1, -1)", 0);
            due(lab, "section(0, 2, 0, " + beside + ", 1, -1)", bits(0));
            due(lab, "section(0, 1, 1, " + at + ", 1, -1)", bits(0, 2));
        }
        Run whole = Starts.whole(1, 0);
        due(whole, "section(0, 2, 1, {0 5}, 1, -1)", 255 - bits(1, 3));
        due(whole, "section(0, 2, 1, {3 5}, 1, -1)", 255 - bits(3, 7));
        due(whole, "section(0, 1, 0, {1 4}, 1, -1)", 255 - bits(0, 4, 5));
    }

    /** What a section was ahead of a new opening, or ahead of being shut, counts no more. */
    private static void openedAnew() {
        promise(2);
        Run once = new Run("section(0, 0, 0, {0 1}, 3, 1)", "section(0, 0, 0, {1 2}, 5, 0)");
        row(once, "of(0, 0, 0, 1)", bits(1, 2), "of(0, 0, 0, 2)", 5, "of(0, 0, 0, 3)", 0, "time(0, 0)", bits(1, 2),
                "count(1)", 1);
        Run gone = new Run("section(0, 0, 0, {0}, 3, -1)", "section(0, 1, 0, {0 5}, 0, 1)",
                "section(0, 2, 0, {0 6}, 0, 1)", "shut(0, 1, 0)", "shut(0, 2, 0)", "pupil(0, {5 6}, 1)");
        row(gone, "triples(0)", bits(0), "time(0, 0)", bits(0), "fits(0, 0)", bits(0), "most(0)", 1, "ways(0)", 2,
                "pick(0, 0, 3)", 0, "its(0, 3)", bits(0), "of(0, 1, 0, 4)", LOW - NONE);
    }

    private static void capsInUse() {
        promise(2);
        Run two = Starts.whole(9, 6).then("put(1, 0, 0)", "put(5, 0, 0)", "put(3, 0, 7)");
        for (int sort = 0; sort < 3; sort++) {
            String first = "section(0, " + sort + ", 0, {" + 2 * sort + "}, ";
            String second = "section(0, " + sort + ", 1, {" + (2 * sort + 1) + "}, ";
            due(two, first + "2, -1)", 255);
            refused(two, first + "1, -1)", STATE);
            refused(two, first + "0, -1)", STATE);
            due(two, second + "1, -1)", 255);
            refused(two, second + "0, -1)", STATE);
            due(two.then("out(5, 0)"), first + "1, -1)", 255);
        }
        Run lecture = new Run("section(0, 0, 0, {0}, 9, -1)").then(Starts.pupils(6)).then("fill(0)");
        for (int sort = 1; sort < 3; sort++) {
            due(lecture, "section(0, " + sort + ", 0, {1}, 6, -1)", bits(0));
            refused(lecture, "section(0, " + sort + ", 0, {1}, 5, -1)", STATE);
            refused(lecture, "section(0, " + sort + ", 0, {1}, 0, -1)", STATE);
        }
    }

    private static void hoursInUse() {
        promise(2);
        Run start = new Run("section(0, 0, 0, {0}, 9, -1)", "section(0, 1, 0, {1}, 9, -1)",
                "section(1, 0, 0, {10}, 9, -1)").then(Starts.pupils(5))
                .then("pupil(0, {0 1 15}, 2)", "leave()", "pupil(0, {15}, 3)", "put(0, 0, 0)", "put(5, 0, 0)",
                "put(5, 1, 0)");
        for (String section : new String[] {"0, 0, 0", "0, 1, 0"}) {
            due(start, "section(" + section + ", {9 11}, 9, -1)", bits(0));
            refused(start, "section(" + section + ", {10}, 9, -1)", STATE);
            due(start, "section(" + section + ", {14 16}, 9, -1)", bits(0));
            refused(start, "section(" + section + ", {15}, 9, -1)", STATE);
            refused(start, "section(" + section + ", {14 15 16}, 9, -1)", STATE);
            due(start.then("out(5, 1)"), "section(" + section + ", {10}, 9, -1)", bits(0));
            due(start.then("out(5, 0)"), "section(" + section + ", {15}, 9, -1)", bits(0));
        }
        refused(start, "section(1, 0, 0, {0}, 9, -1)", STATE);
        refused(start, "section(1, 0, 0, {1}, 9, -1)", STATE);
        due(start, "section(1, 0, 0, {2}, 9, -1)", bits(0));
        refused(start, "section(0, 2, 0, {10}, 9, -1)", STATE);
        due(start, "section(0, 2, 0, {9}, 9, -1)", bits(0));
        row(start, "section(0, 1, 0, {2}, 9, -1)", bits(0), "its(5, 3)", bits(0, 2, 10), "its(0, 3)", bits(0, 2));
    }

    private static void lawInUse() {
        promise(2);
        Run start = new Run("section(0, 0, 0, {0}, 9, -1)", "section(0, 0, 1, {1}, 9, -1)").then(Starts.pupils(6))
                .then("put(5, 0, 4)");
        for (int sort = 1; sort < 3; sort++) {
            due(start, "section(0, " + sort + ", 0, {2}, 9, -1)", bits(0, 4));
            due(start, "section(0, " + sort + ", 0, {2}, 9, 1)", bits(4));
            refused(start, "section(0, " + sort + ", 0, {2}, 9, 0)", STATE);
            refused(start, "section(0, " + sort + ", 1, {2}, 9, -1)", STATE);
            refused(start, "section(0, " + sort + ", 1, {2}, 9, 1)", STATE);
            refused(start, "section(0, " + sort + ", 0, {1}, 9, 1)", STATE);
            due(start, "section(0, " + sort + ", 0, {0}, 9, -1)", bits(4));
            due(start.then("out(5, 0)"), "section(0, " + sort + ", 0, {1}, 9, 0)", bits(0));
        }
        Run whole = Starts.whole(9, 2).then("put(0, 0, 0)", "put(1, 0, 7)");
        refused(whole, "section(0, 2, 1, {3}, 9, -1)", STATE);
        refused(whole, "section(0, 1, 1, {5}, 9, -1)", STATE);
        refused(whole, "section(0, 0, 1, {3}, 9, -1)", STATE);
        refused(whole, "section(0, 0, 1, {5}, 9, -1)", STATE);
        refused(whole, "section(0, 1, 0, {2}, 9, 1)", STATE);
        refused(whole, "section(0, 2, 1, {5}, 9, 0)", STATE);
        due(whole, "section(0, 0, 1, {2}, 9, 0)", 255 - bits(4, 5));
    }

    /** A section in which nobody sits may become anything, whatever those who sit elsewhere, or wish it, have. */
    private static void others() {
        promise(2);
        Run start = Starts.whole(9, 2).then("change(1, 1, {19})", "put(0, 0, 0)", "section(1, 0, 0, {8}, 9, -1)",
                "put(0, 1, 0)");
        due(start, "section(0, 0, 1, {8 19 2 4}, 0, 1)", bits(0, 1, 2, 3, 7));
        due(start, "section(0, 2, 1, {0 8 19}, 0, 1)", 255 - bits(1, 3));
        due(start, "section(2, 0, 0, {0 8 19}, 0, -1)", bits(0));
    }

    private static void shut() {
        promise(3);
        edges(OFFICE, "shut", "0 0 0", "0..3 0..2 0..1");
        for (int part = 0; part < 24; part++) {
            refused(NEW, "shut(" + part / 6 + ", " + part / 2 % 3 + ", " + part % 2 + ")", NONE);
        }
        refused(OFFICE, "shut(0, 2, 0)", NONE);
        refused(OFFICE, "shut(1, 2, 0)", NONE);
        refused(OFFICE, "shut(2, 0, 0)", NONE);
        refused(OFFICE.then("shut(2, 0, 1)"), "shut(2, 0, 1)", NONE);
        row(OFFICE, "shut(2, 0, 1)", 1, "of(2, 0, 1, 0)", 0, "of(2, 0, 1, 1)", LOW - NONE, "triples(2)", 0,
                "count(1)", 6, "section(2, 0, 1, {7}, 0, 0)", bits(4), "of(2, 0, 1, 1)", bits(7), "its(4, 12)", -1);
    }

    private static void whoGoesOut() {
        promise(3);
        Run six = Starts.whole(9, 6);
        due(six, "shut(0, 0, 0)", 0);
        for (int i = 0; i < 6; i++) {
            six = six.then("put(" + i + ", 0, " + i + ")");
        }
        Run put = six.then("section(1, 0, 0, {19}, 9, -1)", "fill(0)");
        due(put, "shut(0, 0, 0)", 4);
        due(put, "shut(0, 0, 1)", 2);
        due(put, "shut(0, 1, 0)", 4);
        due(put, "shut(0, 1, 1)", 2);
        due(put, "shut(0, 2, 0)", 3);
        due(put, "shut(0, 2, 1)", 3);
        row(put, "shut(0, 1, 0)", 4, "its(0, 10)", -1, "its(1, 10)", -1, "its(2, 10)", 2, "its(3, 10)", 3,
                "its(4, 10)", -1, "its(5, 10)", -1, "its(0, 11)", 0, "its(4, 11)", 0, "of(0, 0, 0, 4)", 2);
        Run all = Starts.whole(9, 6).then("shut(0, 1, 1)", "shut(0, 2, 0)", "fill(0)");
        due(all, "shut(0, 0, 0)", 6);
        due(all, "shut(0, 2, 1)", 6);
        row(all, "shut(0, 1, 0)", 0, "of(0, 0, 0, 4)", 6, "its(5, 10)", 1, "its(5, 3)", bits(0, 5),
                "triples(0)", bits(1, 5));
        Run drill = Starts.whole(9, 1).then("shut(0, 2, 1)", "fill(0)", "section(1, 0, 0, {4}, 9, -1)");
        row(drill, "fits(0, 1)", 0, "shut(0, 2, 0)", 0, "its(0, 3)", bits(0, 2), "fits(0, 1)", bits(0));
        Run labOne = new Run("section(0, 0, 0, {0}, 9, -1)", "section(0, 1, 1, {1}, 9, -1)", "pupil(0, 0, 1)");
        row(labOne, "put(0, 0, 2)", -1, "shut(0, 1, 1)", 1, "its(0, 10)", -1, "triples(0)", bits(0));
        Run hourless = new Run("section(0, 0, 0, 0, 9, -1)", "section(0, 1, 0, {4}, 9, -1)", "pupil(0, 0, 1)");
        row(hourless, "put(0, 0, 0)", -1, "shut(0, 1, 0)", 0, "its(0, 10)", 0, "time(0, 0)", 0, "its(0, 3)", 0);
    }

    private static void of() {
        promise(4);
        edges(OFFICE, "of", "0 0 0 0", "0..3 0..2 0..1 0..5");
        edges(OFFICE, "of", "0 0 0 5", "0..3 0..2 0..1 0..5");
        for (int part = 0; part < 24; part++) {
            String section = part / 6 + ", " + part / 2 % 3 + ", " + part % 2;
            for (int what = 1; what < 6; what++) {
                due(NEW, "of(" + section + ", " + what + ")", LOW - NONE);
            }
            Run open = new Run("section(" + section + ", {" + part % 20 + "}, " + part % 10 + ", " + (part % 3 - 1) + ")");
            row(open, "of(" + section + ", 0)", 1, "of(" + section + ", 1)", bits(part % 20),
                    "of(" + section + ", 2)", part % 10, "of(" + section + ", 3)", part % 3 - 1,
                    "of(" + section + ", 4)", 0, "of(" + section + ", 5)", part % 10, "count(1)", 1);
        }
        for (int what = 1; what < 6; what++) {
            refused(OFFICE, "of(3, 0, 0, " + what + ")", NONE);
        }
        due(OFFICE, "of(3, 0, 0, 0)", 0);
        refused(OFFICE, "of(3, 0, 0, 6)", BEYOND);
        refused(OFFICE, "of(3, 0, 0, -1)", BEYOND);
        row(OFFICE, "of(0, 1, 0, 4)", 1, "of(0, 1, 0, 5)", 0, "of(0, 0, 0, 5)", 1, "of(2, 0, 1, 5)", 8);
        Run six = Starts.whole(6, 6).then("fill(0)");
        row(six, "of(0, 0, 0, 4)", 6, "of(0, 0, 0, 5)", 0, "of(0, 0, 1, 4)", 0, "of(0, 0, 1, 5)", 6,
                "of(0, 2, 0, 4)", 6, "of(0, 2, 1, 4)", 0);
    }

    private static void triplesAndTime() {
        promise(5);
        edges(OFFICE, "triples", "0", "0..3");
        due(OFFICE, "triples(0)", bits(0, 4, 6));
        due(OFFICE, "triples(1)", bits(1));
        due(OFFICE, "triples(2)", bits(4));
        due(OFFICE, "triples(3)", 0);
        promise(6);
        edges(OFFICE, "time", "0 0", "0..3 0..7");
        Run whole = Starts.whole(0, 0);
        for (int triple = 0; triple < 8; triple++) {
            due(whole, "time(0, " + triple + ")", bits(triple >> 2, 2 + (triple >> 1 & 1), 4 + (triple & 1)));
            refused(OFFICE, "time(3, " + triple + ")", NONE);
            if (triple != 1) {
                refused(OFFICE, "time(1, " + triple + ")", NONE);
            }
        }
        due(OFFICE, "time(1, 1)", bits(4, 5, 6));
        due(new Run("section(0, 0, 1, 0, 0, -1)"), "time(0, 4)", 0);
    }

    private static void uneven() {
        promise(7);
        edges(OFFICE, "uneven", "0", "0..3");
        for (int sort = 0; sort < 3; sort++) {
            Run two = Starts.whole(9, 6);
            for (int other = 0; other < 3; other++) {
                if (other != sort) {
                    two = two.then("shut(0, " + other + ", 1)");
                }
            }
            int second = 4 >> sort;
            due(two, "uneven(0)", 0);
            due(two.then("put(3, 0, 0)"), "uneven(0)", 1);
            due(two.then("put(3, 0, " + second + ")"), "uneven(0)", 1);
            due(two.then("put(3, 0, 0)", "put(4, 0, " + second + ")"), "uneven(0)", 0);
            due(two.then("fill(0)"), "uneven(0)", 6);
            due(two.then("fill(0)", "shut(0, " + sort + ", 1)"), "uneven(0)", 0);
        }
        due(Starts.whole(9, 6).then("fill(0)"), "uneven(0)", 18);
        due(Starts.whole(9, 6).then("fill(0)", "put(0, 0, 7)"), "uneven(0)", 12);
        due(Starts.whole(9, 6).then("put(0, 0, 0)", "put(1, 0, 7)", "put(2, 0, 3)"), "uneven(0)", 3);
        due(Starts.whole(9, 6).then("put(0, 0, 1)", "put(1, 0, 6)"), "uneven(0)", 0);
        due(Starts.whole(9, 6).then("fill(0)"), "uneven(1)", 0);
        Run beside = new Run(Starts.sections(1, 9)).then(Starts.sections(2, 9)).then(Starts.sections(3, 9))
                .then(Starts.pupils(6)).then("put(0, 2, 0)", "put(1, 2, 0)", "put(2, 1, 7)", "put(3, 3, 4)");
        row(beside, "uneven(0)", 0, "uneven(1)", 3, "uneven(2)", 6, "uneven(3)", 3);
    }
}
