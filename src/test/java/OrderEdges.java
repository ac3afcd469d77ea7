/** Edges of promises 28 to 30: rows of orders, loose ones, the seed of the draws. */
final class OrderEdges extends Edges {
    @Override
    void run() {
        orders();
        howManyNumbers();
        leftOut();
        oneBehindTheOther();
        numbersOfEachSort();
        loose();
        draws();
        seed();
    }

    private static Run sheet(Run start, int sort, long... numbers) {
        Run run = start.then("sheet(2, " + sort + ", " + numbers.length + ")");
        for (int i = 0; i < numbers.length; i++) {
            run = run.then("write(2, " + i + ", " + numbers[i] + ")");
        }
        return run;
    }

    private static void orders() {
        promise(28);
        edges(OFFICE, "orders", "0", "0..3");
        refused(OFFICE, "orders(3)", MISSING);
        for (int s = 0; s < 4; s++) {
            refused(NEW, "orders(" + s + ")", MISSING);
            refused(OFFICE.then("sheet(" + s + ", -1, 0)"), "orders(" + s + ")", MISSING);
            row(NEW.then("sheet(" + s + ", 0, 0)"), "orders(" + s + ")", 0, "count(4)", 1);
        }
    }

    /** One or two numbers at the end don't count. */
    private static void howManyNumbers() {
        promise(28);
        for (int n = 0; n <= 40; n++) {
            Run zeros = Starts.whole(9, 1).then("sheet(1, 1, " + n + ")");
            row(zeros, "orders(1)", n / 3, "its(0, 10)", n < 3 ? -1 : 0, "count(4)", 8, "undo()", 7, "its(0, 10)", -1);
        }
        due(sheet(Starts.whole(9, 2), 1, 0, 0, 0, 1, 0), "orders(2)", 1);
        due(sheet(Starts.whole(9, 2), 1, 0, 0, 0, 1, 0, 0), "orders(2)", 2);
        due(sheet(Starts.whole(9, 2), 1, 0, 0, 0, 1, 0, 0, 1), "orders(2)", 2);
    }

    /** What pick() would refuse isn't done, nor told as a finding; what follows is done yet. */
    private static void leftOut() {
        promise(28);
        Run start = Starts.whole(1, 3).then("change(2, 2, 14)");
        long[][] refusals = {{-1, 0, 0}, {3, 0, 0}, {0, -1, 0}, {0, 4, 0}, {0, 0, -1}, {0, 0, 5}, {2, 0, 0}, {0, 1, 0},
            {127, 0, 0}, {0, 0, -128}};
        for (long[] r : refusals) {
            for (int sort = 0; sort < 3; sort++) {
                Run alone = sheet(start, sort, r[0], r[1], r[2]);
                row(alone, "orders(2)", 0, "status(-1)", 0, "count(2)", 0, "count(4)", 11);
                Run ahead = sheet(start, sort, r[0], r[1], r[2], 1, 0, 0);
                row(ahead, "orders(2)", 1, "its(1, 10)", 0, "status(-1)", 0, "count(2)", 1);
            }
        }
        row(sheet(start, 0, 0, 0, 4, 1, 0, 4), "orders(2)", 2, "its(0, 10)", 0, "its(1, 10)", 7);
        row(sheet(Starts.whole(1, 3), 0, 0, 0, 0, 1, 0, 0, 2, 0, 0), "orders(2)", 2, "its(2, 10)", -1,
                "status(-1)", 0);
        Run last = new Run("section(3, 0, 0, {0}, 1, -1)").then(Starts.pupils(6));
        row(sheet(last, 0, 5, 3, 4), "orders(2)", 1, "its(5, 13)", 0);
    }

    private static void oneBehindTheOther() {
        promise(28);
        row(sheet(Starts.whole(9, 2), 0, 0, 0, 0, 1, 0, 2, 0, 0, 2), "orders(2)", 3, "its(0, 10)", 0, "its(1, 10)", 7,
                "item(2, 3)", 1, "count(4)", 9, "undo()", 8, "count(2)", 0);
        row(sheet(Starts.whole(1, 2).then("put(0, 0, 7)"), 0, 1, 0, 0, 0, 0, 0, 1, 0, 0), "orders(2)", 3,
                "its(0, 10)", 7, "its(1, 10)", 0);
        row(sheet(Starts.whole(1, 1).then("put(0, 0, 7)"), 0, 0, 0, 0), "orders(2)", 1, "its(0, 10)", 0);
    }

    private static void numbersOfEachSort() {
        promise(28);
        for (int sort = 0; sort < 3; sort++) {
            row(sheet(Starts.whole(9, 2), sort, 1, 0, 3), "orders(2)", 1, "its(1, 10)", 0);
        }
        long wide = 1L << 32;
        row(sheet(Starts.whole(9, 2), 0, 256, 512, 1024), "orders(2)", 1, "its(0, 10)", 0);
        row(sheet(Starts.whole(9, 2), 1, wide, wide, wide), "orders(2)", 1, "its(0, 10)", 0);
        row(sheet(Starts.whole(9, 2), 2, wide, 0, 0, 0, wide, 0, 0, 0, wide, -wide, 0, 0), "orders(2)", 0,
                "count(2)", 0);
        row(sheet(Starts.whole(9, 2), 2, Long.MIN_VALUE, 0, 0, 0, Long.MAX_VALUE, 0), "orders(2)", 0);
    }

    private static void loose() {
        promise(29);
        edges(OFFICE, "loose", "1", "1..20");
        row(OFFICE, "loose(0)", LOW - BEYOND, "count(5)", -77, "loose(21)", LOW - BEYOND, "count(5)", -77,
                "seed(-77)", -77);
        due(OFFICE.then("loose(1)"), "count(5)", after(-77, 3));
        due(OFFICE.then("loose(20)"), "count(5)", after(-77, 60));
        for (int n = 1; n <= 20; n++) {
            row(NEW, "loose(" + n + ")", 0, "count(5)", after(1, 3 * n), "count(4)", 1, "status(-1)", 0, "undo()", 0,
                    "count(5)", after(1, 3 * n));
        }
    }

    private static int after(int z, int draws) {
        int now = z;
        for (int i = 0; i < draws; i++) {
            now = now * 1103515245 + 12345;
        }
        return now;
    }

    /** From 1 on z is 1103527590, 2524885223, 662824084, 3295386429, 4182499122, 2516284547 (less 2 to the 32nd). */
    private static void draws() {
        promise(29);
        Run six = Starts.whole(9, 6).then("section(0, 0, 1, {1 7}, 9, -1)", "section(3, 0, 1, {19}, 1, -1)");
        row(six, "loose(1)", 1, "count(5)", 662824084, "its(2, 10)", 0, "count(2)", 1);
        row(six, "loose(2)", 2, "count(5)", (int) 2516284547L, "its(2, 10)", 0, "its(5, 13)", 4, "count(2)", 2);
        row(six.then("change(2, 2, 14)"), "loose(2)", 1, "its(2, 10)", -1, "its(5, 13)", 4, "status(-1)", 0);
        for (int z : new int[] {0, 1, -1, -77, 123456789, Integer.MIN_VALUE, Integer.MAX_VALUE}) {
            Run drawn = six.then("seed(" + z + ")");
            Run told = six.then("sheet(0, 0, 39)");
            int now = z;
            for (int i = 0; i < 39; i++) {
                now = after(now, 1);
                told = told.then("write(0, " + i + ", " + (now >>> 8) % new int[] {6, 4, 5}[i % 3] + ")");
            }
            due(drawn, "loose(13)", told.ask("orders(0)"));
            for (int pupil = 0; pupil < 6; pupil++) {
                for (int what = 10; what < 14; what++) {
                    String its = "its(" + pupil + ", " + what + ")";
                    due(drawn.then("loose(13)"), its, told.then("orders(0)").ask(its));
                }
            }
        }
    }

    private static void seed() {
        promise(30);
        row(NEW, "seed(MIN)", 1, "count(5)", Integer.MIN_VALUE, "seed(MAX)", Integer.MIN_VALUE, "seed(0)",
                Integer.MAX_VALUE, "seed(-1)", 0, "count(5)", -1, "count(4)", 0, "undo()", LOW - NONE, "count(5)", -1);
        row(OFFICE, "seed(5)", -77, "undo()", 29, "count(5)", 5);
    }
}
