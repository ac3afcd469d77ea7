/** Edges of promises 35 to 38: sheets, what is written to them, read and copied. */
final class SheetEdges extends Edges {
    private static final long WIDE = -3L << 40 | 0x1F0000080L;

    @Override
    void run() {
        sheet();
        howLong();
        anew();
        writeAndItem("write", 36);
        writeAndItem("item", 37);
        lowestBits();
        placesApart();
        copyFindings();
        copyEnds();
        copied();
    }

    private static void sheet() {
        promise(35);
        edges(OFFICE, "sheet", "0 0 3", "0..3 -1..2 *");
        edges(OFFICE, "sheet", "0 -1 3", "0..3 -1..2 *");
        edges(OFFICE, "sheet", "0 0 -1", "0..3 -1..2 *");
        edges(OFFICE, "sheet", "3 2 MIN", "0..3 -1..2 *");
        for (int s : new int[] {-1, 4}) {
            refused(OFFICE, "sheet(" + s + ", 0, -1)", BEYOND);
            refused(OFFICE, "sheet(" + s + ", -1, 0)", BEYOND);
            refused(OFFICE, "sheet(" + s + ", 0, 41)", BEYOND);
        }
        for (int sort : new int[] {-2, 3}) {
            refused(OFFICE, "sheet(0, " + sort + ", -1)", BEYOND);
            refused(OFFICE, "sheet(3, " + sort + ", 41)", BEYOND);
        }
        for (int s = 0; s < 4; s++) {
            for (int sort = 0; sort < 3; sort++) {
                String start = "sheet(" + s + ", " + sort + ", ";
                refused(OFFICE, start + "-1)", SIZE);
                refused(OFFICE, start + "MIN)", SIZE);
                refused(OFFICE, start + "41)", BEYOND);
                refused(OFFICE, start + "MAX)", BEYOND);
                due(OFFICE, start + "0)", 0);
                due(OFFICE, start + "1)", 1);
                due(OFFICE, start + "40)", 40);
            }
            for (String n : new String[] {"0", "40", "41", "-1", "MIN", "MAX"}) {
                row(OFFICE, "sheet(" + s + ", -1, " + n + ")", 0, "item(" + s + ", 0)", LONG_LOW - MISSING,
                        "status(6)", OFFICE.ask("status(6)"));
            }
        }
    }

    private static void howLong() {
        promise(35);
        for (int n : new int[] {0, 1, 2, 39, 40}) {
            for (int sort = 0; sort < 3; sort++) {
                Run run = NEW.then("sheet(3, " + sort + ", " + n + ")");
                for (int i = 0; i < n; i++) {
                    due(run, "item(3, " + i + ")", 0);
                }
                due(run, "item(3, " + n + ")", LONG_LOW - BEYOND);
                due(run, "write(3, " + n + ", 1)", LOW - BEYOND);
                due(run, "item(2, 0)", LONG_LOW - MISSING);
                due(run, "count(4)", 0);
            }
        }
    }

    /** A sheet made anew has nothing of what it was. */
    private static void anew() {
        promise(35);
        for (int sort = 0; sort < 3; sort++) {
            row(OFFICE, "sheet(2, " + sort + ", 40)", 40, "item(2, 0)", 0, "item(2, 39)", 0, "write(2, 1, " + WIDE + ")",
                    1, "item(2, 1)", cut(sort, WIDE), "item(1, 0)", 4, "item(0, 2)", -3);
        }
        row(OFFICE, "sheet(2, 2, 0)", 0, "item(2, 0)", LONG_LOW - BEYOND, "sheet(2, 2, 40)", 40, "item(2, 0)", 0,
                "item(2, 39)", 0);
        row(OFFICE, "sheet(2, -1, 0)", 0, "sheet(2, 2, 40)", 40, "item(2, 0)", 0, "item(2, 39)", 0);
        row(OFFICE, "sheet(2, 2, 3)", 3, "item(2, 3)", LONG_LOW - BEYOND, "item(2, 39)", LONG_LOW - BEYOND);
    }

    private static long cut(int sort, long v) {
        return sort == 0 ? (byte) v : sort == 1 ? (int) v : v;
    }

    private static void writeAndItem(String act, int number) {
        promise(number);
        String more = act.equals("write") ? " 5" : "";
        String any = act.equals("write") ? " *" : "";
        String last = act.equals("write") ? ", 5)" : ")";
        edges(OFFICE, act, "0 0" + more, "0..3 0..2" + any);
        edges(OFFICE, act, "1 0" + more, "0..3 0..5" + any);
        edges(OFFICE, act, "2 0" + more, "0..3 0..39" + any);
        for (String i : new String[] {"0", "-1", "40", "MIN", "MAX"}) {
            refused(OFFICE, act + "(3, " + i + last, MISSING);
            refused(OFFICE, act + "(4, " + i + last, BEYOND);
            refused(OFFICE, act + "(-1, " + i + last, BEYOND);
            refused(OFFICE.then("sheet(1, 1, 0)"), act + "(1, " + i + last, BEYOND);
        }
    }

    private static void lowestBits() {
        promise(36);
        long[] values = {0, 1, -1, 127, 128, 129, 255, 256, -128, -129, 32767, 65536, Integer.MAX_VALUE,
            Integer.MIN_VALUE, 1L << 31, (1L << 32) - 1, 1L << 32, -(1L << 32) - 1, Long.MAX_VALUE, Long.MIN_VALUE, WIDE};
        for (int sort = 0; sort < 3; sort++) {
            for (long v : values) {
                row(NEW.then("sheet(0, " + sort + ", 2)"), "write(0, 1, " + v + ")", 1, "item(0, 1)", cut(sort, v),
                        "item(0, 0)", 0);
            }
        }
        row(NEW.then("sheet(0, 0, 1)"), "write(0, 0, 128)", 1, "item(0, 0)", -128, "write(0, 0, 383)", 1,
                "item(0, 0)", 127);
        row(NEW.then("sheet(0, 1, 1)"), "write(0, 0, 2147483648)", 1, "item(0, 0)", -2147483648L,
                "write(0, 0, 6442450943)", 1, "item(0, 0)", 2147483647);
    }

    /** Each number has a place of its own, in each sheet. */
    private static void placesApart() {
        promise(37);
        Run run = NEW;
        for (int s = 0; s < 4; s++) {
            run = run.then("sheet(" + s + ", 1, 40)");
            for (int i = 0; i < 40; i++) {
                run = run.then("write(" + s + ", " + i + ", " + (100 * s + i + 1) + ")");
            }
        }
        SectionOffice x = run.made();
        for (int i = 0; i < 160; i++) {
            Checks.same("number " + i % 40 + " of " + i / 40, x.item(i / 40, i % 40), 100 * (i / 40) + i % 40 + 1);
        }
        row(run, "sheet(1, -1, 0)", 0, "item(0, 39)", 40, "item(2, 0)", 201);
        row(run, "copy(0, 0, 1, 0, 40)", 40, "item(1, 0)", 1, "item(1, 39)", 40, "item(2, 0)", 201, "item(0, 39)", 40);
        row(run, "copy(3, 1, 0, 0, 39)", 39, "item(0, 0)", 302, "item(0, 38)", 340, "item(0, 39)", 40,
                "item(1, 0)", 101);
    }

    private static void copyFindings() {
        promise(38);
        edges(OFFICE, "copy", "2 0 2 0 0", "0..3 * 0..3 * *");
        edges(OFFICE, "copy", "3 0 3 0 0", "0..3 * 0..3 * *");
        refused(OFFICE, "copy(4, 0, 3, 0, 0)", BEYOND);
        refused(OFFICE, "copy(3, 0, 4, 0, 0)", BEYOND);
        refused(OFFICE, "copy(0, 0, 3, 0, 0)", MISSING);
        refused(OFFICE, "copy(3, 0, 0, 0, 0)", MISSING);
        refused(OFFICE, "copy(3, 0, 3, 0, 0)", MISSING);
        refused(OFFICE, "copy(3, -1, 0, -1, -1)", MISSING);
        refused(OFFICE, "copy(0, 99, 3, 99, 99)", MISSING);
        for (int s = 0; s < 3; s++) {
            for (int t = 0; t < 3; t++) {
                if (s != t) {
                    refused(OFFICE, "copy(" + s + ", 0, " + t + ", 0, 0)", KIND);
                    refused(OFFICE, "copy(" + s + ", -1, " + t + ", 99, MIN)", KIND);
                } else {
                    due(OFFICE, "copy(" + s + ", 0, " + t + ", 0, 1)", 1);
                }
            }
        }
    }

    /** Sheet 0 has 3 numbers, sheet 3 then 5. */
    private static void copyEnds() {
        promise(38);
        Run two = OFFICE.then("sheet(3, 0, 5)");
        for (int i = -1; i <= 6; i++) {
            for (int n = -1; n <= 6; n++) {
                String from = "copy(0, " + i + ", 3, 0, " + n + ")";
                String to = "copy(3, 0, 0, " + i + ", " + n + ")";
                if (i >= 0 && n >= 0 && i + n <= 3) {
                    due(two, from, n);
                    due(two, to, n);
                } else {
                    refused(two, from, BEYOND);
                    refused(two, to, BEYOND);
                }
            }
        }
        for (String wrong : new String[] {"MAX, 3, 0, 1", "1, 3, 0, MAX", "MAX, 3, MAX, MAX", "MIN, 3, 0, 1",
            "0, 3, MIN, 1", "0, 3, 0, MIN", "0, 3, MAX, 1", "MIN, 3, MIN, MIN", "1, 3, MAX, MAX"}) {
            refused(two, "copy(0, " + wrong + ")", BEYOND);
        }
        Run none = OFFICE.then("sheet(3, 0, 0)");
        due(none, "copy(3, 0, 0, 3, 0)", 0);
        due(none, "copy(3, 0, 3, 0, 0)", 0);
        refused(none, "copy(3, 0, 0, 0, 1)", BEYOND);
        refused(none, "copy(0, 0, 3, 0, 1)", BEYOND);
        due(OFFICE.then("sheet(3, 2, 40)"), "copy(2, 0, 3, 0, 40)", 40);
        refused(OFFICE.then("sheet(3, 2, 40)"), "copy(2, 0, 3, 1, 40)", BEYOND);
        refused(OFFICE.then("sheet(3, 2, 40)"), "copy(2, 0, 3, 0, 41)", BEYOND);
    }

    private static void copied() {
        promise(38);
        Run row = NEW.then("sheet(0, 1, 6)");
        for (int i = 0; i < 6; i++) {
            row = row.then("write(0, " + i + ", " + (i + 1) + ")");
        }
        int[][] moves = {{0, 1, 5}, {1, 0, 5}, {0, 3, 3}, {3, 0, 3}, {0, 0, 6}, {2, 3, 2}, {3, 2, 2}, {5, 0, 1}, {0, 5, 1},
            {6, 0, 0}, {0, 6, 0}};
        for (int[] m : moves) {
            Run copied = row.then("copy(0, " + m[0] + ", 0, " + m[1] + ", " + m[2] + ")");
            for (int i = 0; i < 6; i++) {
                boolean hit = i >= m[1] && i < m[1] + m[2];
                due(copied, "item(0, " + i + ")", hit ? i - m[1] + m[0] + 1 : i + 1);
            }
            due(copied, "count(4)", 0);
        }
        for (int sort = 0; sort < 3; sort++) {
            Run two = NEW.then("sheet(0, " + sort + ", 2)", "sheet(3, " + sort + ", 3)", "write(0, 1, " + WIDE + ")",
                    "write(3, 0, 7)", "write(3, 1, 8)", "write(3, 2, 9)");
            row(two, "copy(0, 1, 3, 2, 1)", 1, "item(3, 2)", cut(sort, WIDE), "item(3, 1)", 8, "item(3, 0)", 7,
                    "item(0, 1)", cut(sort, WIDE), "item(0, 0)", 0);
        }
    }
}
