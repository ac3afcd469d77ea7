/** Edges of promises 31 to 34: the tape, texts and their faults, lines. */
final class TextEdges extends Edges {
    private static final Run BARE = OFFICE.then("wipe()");
    private static final String KINDS = "pupil early late athlete night free";
    private static final String SORTS = "lecture lab drill";
    private static final String HOURS = "0 1 2 3 4 5 6 7 8 9 10 11 12 13 14 15 16 17 18 19";
    private static final String COURSES = "a b c d";
    private static final String OTHERS = "; ;; away wish cap with e A x Pupil pupils pupil; lectures labs 00 01 09 20 21 99 "
            + "100 010 -1 +1 1. 0x 1a a1 ab , . - aa capp wit";
    private static final String END = "END";

    @Override
    void run() {
        feed();
        feedToTheEnd();
        bytes();
        wipe();
        whatCanStand();
        everyHour();
        everyCourseAndCap();
        blanks();
        otherSigns();
        endsTooEarly();
        fullTape();
        items();
        seventhPupil();
        refusedSection();
        sectionOfText();
        textIsAChange();
        line();
        linesOfKinds();
    }

    private static String blanks(int n) {
        return " ".repeat(n);
    }

    private static void feed() {
        promise(31);
        edges(OFFICE, "feed", "1 1", "* 1..4");
        row(OFFICE, "count(6)", 19, "feed(0, 1)", 20, "feed(-1, 2)", 22, "feed(MIN, 3)", 25, "feed(MAX, 4)", 29,
                "count(6)", 29, "count(4)", 30);
    }

    private static void feedToTheEnd() {
        promise(31);
        for (int has = 116; has <= 120; has++) {
            Run run = OFFICE.then("wipe()", "tape '" + "free" + blanks(has - 4) + "'");
            for (int n = 1; n <= 4; n++) {
                if (has + n <= 120) {
                    due(run, "feed(0, " + n + ")", has + n);
                } else {
                    refused(run, "feed(0, " + n + ")", FULL);
                }
            }
            refused(run, "feed(0, 0)", BEYOND);
            refused(run, "feed(0, 5)", BEYOND);
            due(run, "count(6)", has);
        }
    }

    /** The highest of the lowest bytes comes first; what is above them is left out. */
    private static void bytes() {
        promise(31);
        int free = 0x66726565;
        row(NEW, "feed(" + free + ", 4)", 4, "text()", 1, "its(0, 0)", 5);
        row(NEW, "feed(" + 0x7A7A7A66 + ", 1)", 1, "feed(" + 0xFF777265 + ", 2)", 3, "feed(" + 0x80000065 + ", 1)", 4,
                "text()", 1, "its(0, 0)", 5);
        row(NEW, "feed(" + 0xFF667265 + ", 3)", 3, "feed(" + 0x12345665 + ", 1)", 4, "text()", 1);
        row(NEW, "feed(" + 0x65657266 + ", 4)", 4, "text()", -1);
    }

    private static void wipe() {
        promise(32);
        row(OFFICE, "wipe()", 19, "count(6)", 0, "wipe()", 0, "count(4)", 30, "tape 'free'", 4, "text()", 1,
                "its(5, 0)", 5);
        row(NEW.then("tape '" + blanks(120) + "'"), "wipe()", 120, "feed(0, 4)", 4);
        Checks.unchanged(BARE, "wipe()");
    }

    /** Behind each beginning every word is tried: those told can stand there, the others are faults at their places. */
    private static void whatCanStand() {
        promise(33);
        String item = KINDS + " " + SORTS;
        tryAll("", item);
        tryAll("pupil", "away wish ; " + END);
        for (String kind : KINDS.split(" ")) {
            tryAll(kind + " away", HOURS);
        }
        tryAll("late away 3", HOURS + " wish ; " + END);
        tryAll("late away 3 19 0", HOURS + " wish ; " + END);
        tryAll("free wish", COURSES);
        tryAll("free wish a", COURSES + " ; " + END);
        tryAll("free wish a d a", COURSES + " ; " + END);
        tryAll("night away 0 wish", COURSES);
        tryAll("night away 0 wish d", COURSES + " ; " + END);
        for (String sort : SORTS.split(" ")) {
            tryAll(sort, COURSES);
            tryAll(sort + " a", "0 1");
            tryAll(sort + " b 0", HOURS);
            tryAll(sort + " c 1 5", HOURS + " cap");
            tryAll(sort + " d 1 5 19 5", HOURS + " cap");
            tryAll(sort + " a 0 5 cap", "0 1 2 3 4 5 6 7 8 9");
            tryAll(sort + " a 0 5 cap 3", "with ; " + END);
            tryAll(sort + " a 0 5 cap 3 with", "0 1");
            tryAll(sort + " a 0 5 cap 3 with 1", "; " + END);
            tryAll(sort + " a 0 5 cap 0 ;", item);
        }
        tryAll("free ;", item);
        tryAll("free away 1 wish b ;", item);
        tryAll("free ; late", "away wish ; " + END);
        tryAll("lab a 0 5 cap 3 ; free", "away wish ; " + END);
    }

    private static void tryAll(String ahead, String fine) {
        String[] allowed = fine.split(" ");
        String start = ahead.isEmpty() ? "" : ahead + " ";
        for (String word : (KINDS + " " + SORTS + " " + HOURS + " " + COURSES + " " + OTHERS).split(" ")) {
            String text = start + word;
            long answer = NEW.ask("tell '" + text + "'");
            if (has(allowed, word)) {
                boolean stood = answer > 0 || answer == -1 - text.length();
                Checks.same("'" + text + "' stands", stood ? 1 : 0, 1);
            } else {
                Checks.same("'" + text + "'", answer, -1 - start.length());
                Checks.same("'" + text + "' and more", NEW.ask("tell '" + text + " ; 7'"), -1 - start.length());
            }
        }
        long answer = NEW.ask("tell '" + ahead + "'");
        if (has(allowed, END)) {
            Checks.same("'" + ahead + "' ends", answer > 0 ? 1 : 0, 1);
        } else {
            Checks.same("'" + ahead + "' ends too early", answer, -1 - ahead.length());
            Checks.same("'" + ahead + "', blanks", NEW.ask("tell '" + ahead + "  '"), -3 - ahead.length());
        }
    }

    private static boolean has(String[] words, String word) {
        for (String w : words) {
            if (w.equals(word)) {
                return true;
            }
        }
        return false;
    }

    private static void everyHour() {
        promise(33);
        for (int hour = 0; hour < 20; hour++) {
            row(NEW, "tell 'early away " + hour + "'", 1, "its(0, 1)", bits(hour), "its(0, 0)", 1, "its(0, 2)", 0);
            row(NEW, "tell 'drill c 1 " + hour + " cap 4'", 1, "of(2, 2, 1, 1)", bits(hour), "of(2, 2, 1, 2)", 4);
            row(NEW, "tell 'late away " + hour + " " + hour + "'", 1, "its(0, 1)", bits(hour));
        }
        for (int hour = 20; hour < 130; hour++) {
            due(NEW, "tell 'early away " + hour + "'", -1 - 11);
        }
        for (int hour = 0; hour < 20; hour++) {
            due(NEW, "tell 'early away 0" + hour + "'", -1 - 11);
        }
        row(NEW, "tell 'free away 0 1 2 3 4 5 6 7 8 9 10 11 12 13 14 15 16 17 18 19'", 1, "its(0, 1)", (1 << 20) - 1);
    }

    private static void everyCourseAndCap() {
        promise(33);
        String[] kinds = KINDS.split(" ");
        for (int kind = 0; kind < 6; kind++) {
            row(NEW, "tell '" + kinds[kind] + "'", 1, "count(0)", 1, "its(0, 0)", kind, "its(0, 1)", 0, "its(0, 2)", 0,
                    "count(1)", 0);
            row(NEW, "tell '" + kinds[kind] + " away 9 wish b'", 1, "its(0, 0)", kind, "its(0, 1)", bits(9),
                    "its(0, 2)", 2);
        }
        for (int course = 0; course < 4; course++) {
            char letter = "abcd".charAt(course);
            row(NEW, "tell 'free wish " + letter + "'", 1, "its(0, 2)", 1 << course, "its(0, 1)", 0);
            row(NEW, "tell 'free wish " + letter + " " + letter + "'", 1, "its(0, 2)", 1 << course);
            row(NEW, "tell 'lecture " + letter + " 1 7 cap 2'", 1, "of(" + course + ", 0, 1, 0)", 1, "count(1)", 1);
        }
        row(NEW, "tell 'athlete away 2 wish d c b a'", 1, "its(0, 2)", 15, "its(0, 1)", 4, "its(0, 0)", 3);
        for (int cap = 0; cap < 10; cap++) {
            row(NEW, "tell 'lab b 0 7 cap " + cap + "'", 1, "of(1, 1, 0, 2)", cap, "of(1, 1, 0, 3)", -1);
        }
        String[] sorts = SORTS.split(" ");
        for (int i = 0; i < 12; i++) {
            int which = i / 3 % 2;
            int link = i / 6;
            String section = "1, " + i % 3 + ", " + which;
            row(NEW, "tell '" + sorts[i % 3] + " b " + which + " 7 cap 1 with " + link + "'", 1,
                    "of(" + section + ", 0)", 1, "of(" + section + ", 3)", link, "count(1)", 1);
        }
    }

    private static void blanks() {
        promise(33);
        row(NEW, "tell '  free   away  0    wish a  ;   lab   b 1 3   cap  2  with  0   '", 2, "its(0, 1)", 1,
                "its(0, 2)", 1, "of(1, 1, 1, 3)", 0);
        due(NEW, "tell 'free ;free'", -1 - 5);
        due(NEW, "tell 'free; free'", -1);
        due(NEW, "tell 'free;free'", -1);
        due(NEW, "tell '   x'", -1 - 3);
        due(NEW, "tell 'free   x'", -1 - 7);
        due(NEW, "tell 'lab a 0 1cap 2'", -1 - 8);
        due(NEW, "tell 'lab a 01 cap 2'", -1 - 6);
        due(NEW, "tell 'lab a 0 1 cap2'", -1 - 10);
        due(NEW, "tell 'laba 0 1 cap 2'", -1);
        due(NEW, "tell 'fre e'", -1);
        due(NEW, "tell 'lab a 0 1 9 cap 2'", 1);
    }

    /** No sign but the blank parts words, and no letter is like another. */
    private static void otherSigns() {
        promise(33);
        for (int sign = 0; sign < 256; sign++) {
            char c = (char) sign;
            if (c != ' ') {
                due(NEW, "tell 'free" + c + "'", -1);
                due(NEW, "tell '" + c + "free'", -1);
                due(NEW, "tell 'free" + c + "; free'", -1);
                due(NEW, "tell 'free " + c + " free'", c == ';' ? 2 : -1 - 5);
                due(NEW, "tell 'free wish a" + c + "'", -1 - 10);
                due(NEW, "tell 'free away 1" + c + "'", c >= '0' && c <= '9' ? 1 : -1 - 10);
            }
            boolean hour = c >= '0' && c <= '9';
            due(NEW, "tell 'free away " + c + "'", hour ? 1 : c == ' ' ? -1 - 11 : -1 - 10);
            boolean course = c >= 'a' && c <= 'd';
            due(NEW, "tell 'free wish " + c + "'", course ? 1 : c == ' ' ? -1 - 11 : -1 - 10);
            due(NEW, "tell 'lab a 0 1 cap " + c + "'", hour ? 1 : c == ' ' ? -1 - 15 : -1 - 14);
        }
    }

    private static void endsTooEarly() {
        promise(33);
        Checks.fault(BARE, "", 0);
        Checks.fault(BARE, " ", 1);
        String all = "free away 3 wish a ; lab b 0 7 cap 1 with 1 ; late";
        int[] wordEnds = {4, 9, 11, 16, 18, 20, 24, 26, 28, 30, 34, 36, 41, 43, 45, 50};
        int[] items = {1, 0, 1, 0, 1, 0, 0, 0, 0, 0, 0, 2, 0, 2, 0, 3};
        Run empty = NEW.then("pupil(0, 0, 0)");
        for (int i = 0; i < wordEnds.length; i++) {
            String words = all.substring(0, wordEnds[i]);
            if (items[i] > 0) {
                due(empty, "tell '" + words + "'", items[i]);
                due(empty, "tell '" + words + " '", items[i]);
            } else {
                Checks.fault(empty, words, wordEnds[i]);
                Checks.fault(empty, words + "  ", wordEnds[i] + 2);
            }
        }
    }

    private static void fullTape() {
        promise(33);
        row(NEW, "tell 'free" + blanks(116) + "'", 1, "count(6)", 0, "its(0, 0)", 5);
        row(NEW, "tell '" + blanks(116) + "free'", 1, "count(6)", 0, "its(0, 0)", 5);
        row(NEW, "tell 'lab a 0 1 cap 1" + blanks(104) + "2'", -1 - 119);
        row(NEW, "tell 'lab a 0 1" + blanks(105) + "cap 11'", -1 - 118);
        row(NEW, "tell 'free away" + blanks(110) + "9'", 1, "its(0, 1)", bits(9));
        row(NEW, "tell 'free away" + blanks(109) + "19'", 1, "its(0, 1)", bits(19));
        Checks.fault(BARE, blanks(120), 120);
        Checks.fault(BARE, blanks(119) + "x", 119);
        Checks.fault(BARE, blanks(119) + ";", 119);
        Checks.fault(BARE, "free" + blanks(115) + ";", 120);
        Checks.fault(BARE, "x".repeat(120), 0);
        Checks.fault(BARE, "free " + "x".repeat(115), 5);
        String hours = "free away" + " 1".repeat(55) + blanks(1);
        row(NEW, "tape '" + hours + "'", 120, "text()", 1, "its(0, 1)", 2);
        String wishes = "free wish" + " d".repeat(55);
        row(NEW, "tell '" + wishes + "'", 1, "its(0, 2)", 8);
    }

    private static void items() {
        promise(33);
        StringBuilder text = new StringBuilder("free ; free ; free ; free ; free ; free");
        for (int i = 0; i < 4; i++) {
            text.append(" ; lab ").append("abcd".charAt(i)).append(" 0 1 cap 1");
        }
        row(NEW, "tell '" + text + "'", 10, "count(0)", 6, "count(1)", 4, "count(4)", 1, "undo()", 0, "count(0)", 0,
                "count(1)", 0);
        row(NEW, "tell 'lab a 0 1 cap 1 ; lab a 0 2 cap 3 with 1'", 2, "of(0, 1, 0, 1)", bits(2),
                "of(0, 1, 0, 2)", 3, "of(0, 1, 0, 3)", 1, "count(1)", 1);
        row(NEW, "tell 'lab a 0 2 cap 3 with 1 ; lab a 0 1 cap 1'", 2, "of(0, 1, 0, 1)", bits(1),
                "of(0, 1, 0, 2)", 1, "of(0, 1, 0, 3)", -1);
        row(NEW, "tell 'free away 1 wish a ; late ; early wish c ; night away 9'", 4, "its(1, 1)", 0, "its(1, 2)", 0,
                "its(2, 1)", 0, "its(2, 2)", 4, "its(3, 1)", bits(9), "its(3, 2)", 0, "its(3, 5)", 0);
    }

    private static void seventhPupil() {
        promise(33);
        row(BARE, "tell 'night'", 1, "count(0)", 6, "its(5, 0)", 4);
        for (String kind : KINDS.split(" ")) {
            Checks.fault(BARE, "free ; " + kind, 7);
            Checks.fault(BARE, "free ; " + kind + " away x", 7);
            Checks.fault(BARE.then("pupil(0, 0, 0)"), kind + " wish a", 0);
            Checks.fault(BARE.then("pupil(0, 0, 0)"), "  " + kind + " x", 2);
        }
        Checks.fault(NEW, "free ; free ; free ; free ; free ; free ; free", 42);
        Checks.fault(BARE, "free away x ; free", 10);
        Checks.fault(BARE, "lab d 0 1 cap 1 ; free ; lab d 0 2 cap 2 ; free", 43);
        row(BARE.then("pupil(0, 0, 0)"), "tell 'lab d 0 1 cap 1'", 1, "count(0)", 6);
        Checks.fault(BARE.then("pupil(0, 0, 0)"), "pupils", 0);
    }

    /** What section() would refuse is a fault at the last word of its item, a cap or a link. */
    private static void refusedSection() {
        promise(33);
        due(BARE, "tell 'lecture a 0 0 cap 1'", 1);
        Checks.fault(BARE, "lecture a 0 0 cap 0", 18);
        Checks.fault(BARE, "lecture a 0 0 cap 0  ", 18);
        Checks.fault(BARE, "  lecture a 0 0 cap 0 with 1", 27);
        Checks.fault(BARE, "lecture a 0 0 cap 0   with   0 ; free", 29);
        Checks.fault(BARE, "free ; lecture a 0 0 cap 0 ; x", 25);
        Checks.fault(BARE, "lecture a 0 0 cap 0 ; free ; free", 18);
        Checks.fault(BARE, "lecture a 0 10 cap 2", 19);
        due(BARE, "tell 'lecture a 0 9 11 cap 2'", 1);
        Checks.fault(BARE, "lecture a 0 4 cap 2", 18);
        Checks.fault(BARE, "lecture a 0 2 cap 2", 18);
        due(BARE, "tell 'lab a 0 2 cap 1 with 0'", 1);
        Checks.fault(BARE, "lab a 0 2 cap 1 with 1", 21);
        Checks.fault(BARE, "drill a 0 7 cap 2 with 0", 23);
        due(BARE, "tell 'drill a 0 7 cap 2'", 1);
        Checks.fault(BARE, "drill a 0 7 cap 1", 16);
        Checks.fault(BARE, "drill a 1 7 cap 9", 16);
        Checks.fault(BARE, "lecture c 1 8 cap 9 ; lecture c 1 8 cap 0", 40);
        due(BARE, "tell 'lecture c 1 8 cap 9 ; lecture c 1 8 cap 1'", 2);
        Checks.fault(BARE, "lecture a 0 0 cap 0 with x", 25);
        Checks.fault(BARE, "lecture a 0 0 cap 0 with", 24);
        Checks.fault(BARE, "lecture a 0 0 cap 10", 18);
    }

    /** A section is as section() makes it: whoever sits in it has its new hours. */
    private static void sectionOfText() {
        promise(33);
        row(BARE, "tell 'lecture a 0 7 9 cap 5 ; drill a 0 11 cap 2'", 2, "its(0, 3)", bits(2, 4, 5, 6, 7, 9, 11),
                "of(0, 2, 0, 4)", 2, "of(0, 0, 0, 5)", 4, "triples(0)", bits(0, 4, 6), "time(0, 0)", bits(2, 7, 9, 11));
        row(BARE, "tell 'lab c 1 8 cap 1 ; free'", -1 - 14);
        row(BARE, "tell 'lab b 0 3 cap 1'", 1, "of(1, 1, 0, 4)", 1, "its(0, 11)", 1);
    }

    private static void textIsAChange() {
        promise(33);
        row(OFFICE, "text()", 1, "count(6)", 0, "its(5, 0)", 5, "its(5, 1)", bits(19), "its(5, 2)", 8, "count(4)", 30,
                "undo()", 29, "count(0)", 5, "count(6)", 0, "status(-1)", OFFICE.ask("status(-1)"));
        row(NEW, "tell 'free'", 1, "count(4)", 1, "tell 'fre'", -1, "count(4)", 1, "count(6)", 0, "undo()", 0);
        row(NEW.then("tape 'fr'", "feed(25957, 2)"), "text()", 1, "text()", -1, "count(0)", 1, "status(-1)", 0);
    }

    private static void line() {
        promise(34);
        edges(OFFICE, "line", "0 0", "0..4 *");
        edges(OFFICE, "line", "0 -1", "0..4 *");
        edges(OFFICE, "line", "0 99", "0..4 *");
        String[] lines = {"pupil a00- b0-1", "early a11-", "athlete", "late", "night c1--"};
        for (int pupil = 0; pupil < 5; pupil++) {
            lineIs(OFFICE, pupil, lines[pupil]);
            refused(OFFICE, "line(" + pupil + ", " + lines[pupil].length() + ")", NONE);
            refused(OFFICE, "line(" + pupil + ", -2)", NONE);
            refused(OFFICE, "line(" + pupil + ", MIN)", NONE);
            refused(OFFICE, "line(" + pupil + ", MAX)", NONE);
        }
    }

    private static void lineIs(Run start, int pupil, String line) {
        due(start, "line(" + pupil + ", -1)", line.length());
        for (int k = 0; k < line.length(); k++) {
            due(start, "line(" + pupil + ", " + k + ")", line.charAt(k));
        }
        due(start, "line(" + pupil + ", " + line.length() + ")", LOW - NONE);
    }

    private static void linesOfKinds() {
        promise(34);
        String[] kinds = KINDS.split(" ");
        Run all = Starts.whole(9, 1).then("section(1, 0, 1, {6}, 9, -1)", "section(2, 0, 0, {7}, 9, -1)",
                "section(2, 1, 1, {8}, 9, -1)", "section(3, 0, 1, {9}, 9, -1)", "section(3, 2, 1, {10}, 9, -1)",
                "put(0, 0, 6)", "put(0, 1, 4)", "put(0, 2, 2)", "put(0, 3, 5)");
        for (int kind = 0; kind < 6; kind++) {
            lineIs(all.then("change(0, 0, " + kind + ")"), 0, kinds[kind] + " a110 b1-- c01- d1-1");
            lineIs(all.then("change(0, 0, " + kind + ")", "change(0, 2, 0)"), 0, kinds[kind]);
        }
        lineIs(all.then("out(0, 0)", "out(0, 2)"), 0, "pupil b1-- d1-1");
        for (int triple = 0; triple < 8; triple++) {
            lineIs(Starts.whole(9, 1).then("put(0, 0, " + triple + ")"), 0,
                    "pupil a" + (triple >> 2) + (triple >> 1 & 1) + (triple & 1));
        }
    }
}
