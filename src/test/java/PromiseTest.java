import java.nio.charset.StandardCharsets;

/** One test for each promise of the document, with answers worked out by hand from its words. */
public final class PromiseTest {
    private static final int LOW = -1000001;
    private static final long LONG_LOW = -1000000000000000001L;
    private static final int BEYOND = LOW;
    private static final int FULL = LOW - 1;
    private static final int KIND = LOW - 2;
    private static final int NONE = LOW - 3;
    private static final int STATE = LOW - 4;
    private static final int MISSING = LOW - 5;
    private static final int SIZE = LOW - 6;
    private static final int HOURS = 1 << 20;
    private static final int MIN = Integer.MIN_VALUE;
    private static final int MAX = Integer.MAX_VALUE;

    private static int promise;
    private static int asked;
    private static int wrong;

    private static void due(String call, long got, long want) {
        asked++;
        if (got != want) {
            wrong++;
            System.out.println("promise " + promise + ": " + call + " answered " + got + ", due is " + want);
        }
    }

    private static void feed(SectionOffice x, String text) {
        for (byte b : text.getBytes(StandardCharsets.ISO_8859_1)) {
            x.feed(b, 1);
        }
    }

    private static int tell(SectionOffice x, String text) {
        feed(x, text);
        return x.text();
    }

    private static String lineOf(SectionOffice x, int pupil) {
        StringBuilder line = new StringBuilder();
        for (int k = 0; k < x.line(pupil, -1); k++) {
            line.append((char) x.line(pupil, k));
        }
        return line.toString();
    }

    private static int bit(int... hours) {
        int set = 0;
        for (int h : hours) {
            set |= 1 << h;
        }
        return set;
    }

    /** Course 0 with two lectures at 0 and 1, two labs at 2 and 3, two drills at 4 and 5, each with the same cap. */
    private static SectionOffice whole(int cap, int pupils) {
        SectionOffice x = new SectionOffice();
        for (int part = 0; part < 6; part++) {
            x.section(0, part / 2, part % 2, bit(part), cap, -1);
        }
        for (int i = 0; i < pupils; i++) {
            x.pupil(0, 0, 15);
        }
        return x;
    }

    public static void main(String[] args) {
        sections();
        pupils();
        putAndPicked();
        seatedAnew();
        ordersAndDraws();
        texts();
        sheets();
        undoneAndTold();
        System.out.println(asked + " answers asked, " + wrong + " are not as due");
        if (wrong != 0) {
            System.exit(1);
        }
    }

    private static void sections() {
        newObject();
        section();
        sectionState();
        shut();
        of();
        triplesAndTime();
        withoutHours();
        uneven();
    }

    private static void newObject() {
        promise = 1;
        SectionOffice x = new SectionOffice();
        for (int course = 0; course < 4; course++) {
            due("triples", x.triples(course), 0);
            due("most", x.most(course), 0);
            due("ways", x.ways(course), 1);
            for (int part = 0; part < 6; part++) {
                due("of", x.of(course, part / 2, part % 2, 0), 0);
            }
        }
        int[] counts = {0, 0, 0, 0, 0, 1, 0, 0};
        for (int what = 0; what < 8; what++) {
            due("count(" + what + ")", x.count(what), counts[what]);
        }
        due("status(-1)", x.status(-1), 0);
        due("item", x.item(3, 0), LONG_LOW - 5);
        due("undo", x.undo(), NONE);
    }

    private static void section() {
        promise = 2;
        SectionOffice x = new SectionOffice();
        due("a lab alone", x.section(0, 1, 1, bit(3), 2, -1), 0);
        due("a lecture", x.section(0, 0, 0, bit(0), 2, -1), bit(2));
        due("a second lecture", x.section(0, 0, 1, bit(1), 2, 1), bit(2, 6));
        due("the lab goes with lecture 1", x.section(0, 1, 1, bit(3), 2, 1), bit(6));
        due("lab 0 with any", x.section(0, 1, 0, bit(4), 2, -1), bit(0, 4, 6));
        due("lab 0 at the hour of lecture 0", x.section(0, 1, 0, bit(0, 4), 2, -1), bit(4, 6));
        due("a drill at lab 1's hour", x.section(0, 2, 0, bit(3), 2, -1), bit(4));
        due("no hours at all", x.section(0, 2, 0, 0, 0, -1), bit(4, 6));
        int[][] wrongs = {{4, 0, 0, 1, 1, 0}, {-1, 0, 0, 1, 1, 0}, {0, 3, 0, 1, 1, 0}, {0, -1, 0, 1, 1, 0},
            {0, 0, 2, 1, 1, 0}, {0, 0, -1, 1, 1, 0}, {0, 0, 0, HOURS, 1, 0}, {0, 0, 0, -1, 1, 0}, {0, 0, 0, 1, 10, 0},
            {0, 0, 0, 1, -1, 0}, {0, 0, 0, 1, 1, 2}, {0, 0, 0, 1, 1, -2}, {MIN, MAX, MIN, MAX, MIN, MAX}};
        for (int[] w : wrongs) {
            due("beyond", x.section(w[0], w[1], w[2], w[3], w[4], w[5]), BEYOND);
        }
        due("greatest", x.section(3, 0, 1, HOURS - 1, 9, 1), bit(4));
        due("nothing beyond was done", x.triples(0), bit(4, 6));
    }

    private static void sectionState() {
        SectionOffice x = new SectionOffice();
        x.section(0, 0, 0, bit(0), 2, -1);
        x.section(1, 0, 0, bit(5), 2, -1);
        x.pupil(0, bit(7), 3);
        x.pupil(0, 0, 3);
        x.fill(0);
        due("both sit", x.of(0, 0, 0, 4), 2);
        due("a cap is passed", x.section(0, 0, 0, bit(0), 1, -1), STATE);
        due("an hour of course 1", x.section(0, 0, 0, bit(5), 2, -1), STATE);
        due("an hour away", x.section(0, 0, 0, bit(7), 2, -1), STATE);
        due("lab 1 would make theirs unlawful", x.section(0, 1, 1, bit(8), 9, -1), STATE);
        due("lab 0 at the lecture's hour", x.section(0, 1, 0, bit(0), 9, -1), STATE);
        due("lab 0 with lecture 1", x.section(0, 1, 0, bit(8), 9, 1), STATE);
        due("lab 0 with too few seats", x.section(0, 1, 0, bit(8), 1, -1), STATE);
        due("all is as it was", x.of(0, 0, 0, 1), bit(0));
        due("no lab was opened", x.count(1), 2);
        due("nothing to undo was kept", x.count(4), 5);
        due("lab 0 with seats", x.section(0, 1, 0, bit(8), 2, 0), bit(0));
        due("it counts for them now", x.of(0, 1, 0, 4), 2);
        due("its hour too", x.its(0, 3), bit(0, 5, 8));
    }

    private static void shut() {
        promise = 3;
        SectionOffice x = whole(9, 3);
        x.put(0, 0, 0);
        x.put(1, 0, 2);
        x.put(2, 0, 7);
        due("lab 0 of one", x.shut(0, 1, 0), 1);
        due("it is put out", x.its(0, 10), -1);
        due("others stay", x.its(1, 10), 2);
        due("again", x.shut(0, 1, 0), NONE);
        due("the last lab, 1: their triples need it", x.shut(0, 1, 1), 2);
        x.put(0, 0, 0);
        x.shut(0, 2, 1);
        due("the last drill, 0: it counts for nothing then", x.shut(0, 2, 0), 0);
        due("still there", x.its(0, 10), 0);
        due("by its lecture alone", x.its(0, 3), bit(0));
        due("the lecture", x.shut(0, 0, 0), 1);
        due("beyond", x.shut(4, 0, 0), BEYOND);
        due("beyond", x.shut(0, 3, 0), BEYOND);
        due("beyond", x.shut(0, 0, 2), BEYOND);
        due("beyond", x.shut(-1, -1, -1), BEYOND);
    }

    private static void of() {
        promise = 4;
        SectionOffice x = whole(3, 2);
        x.section(0, 1, 1, bit(3, 9), 7, 1);
        x.put(0, 0, 6);
        int[] due = {1, bit(3, 9), 7, 1, 1, 6};
        for (int what = 0; what < 6; what++) {
            due("of lab 1, " + what, x.of(0, 1, 1, what), due[what]);
        }
        due("lab 0 is free", x.of(0, 1, 0, 5), 3);
        due("not open", x.of(1, 0, 0, 0), 0);
        for (int what = 1; what < 6; what++) {
            due("none", x.of(1, 0, 0, what), NONE);
        }
        due("beyond comes first", x.of(1, 0, 0, 6), BEYOND);
        due("beyond", x.of(0, 0, 0, -1), BEYOND);
        due("beyond", x.of(4, 0, 0, 0), BEYOND);
        due("beyond", x.of(0, 3, 0, 0), BEYOND);
        due("beyond", x.of(0, 0, 2, 0), BEYOND);
    }

    private static void triplesAndTime() {
        promise = 5;
        SectionOffice x = whole(0, 0);
        due("all eight", x.triples(0), 255);
        due("beyond", x.triples(4), BEYOND);
        due("beyond", x.triples(-1), BEYOND);
        x.section(0, 2, 0, bit(4), 0, 0);
        due("drill 0 with lecture 0 alone", x.triples(0), 255 - bit(4, 6));
        x.shut(0, 0, 0);
        due("lecture 1 with drill 1", x.triples(0), bit(5, 7));

        promise = 6;
        due("of triple 7", x.time(0, 7), bit(1, 3, 5));
        due("not lawful", x.time(0, 4), NONE);
        due("beyond", x.time(0, 8), BEYOND);
        due("beyond", x.time(0, -1), BEYOND);
        due("beyond", x.time(4, 0), BEYOND);
        x.shut(0, 1, 0);
        x.shut(0, 1, 1);
        due("without labs", x.time(0, 5), bit(1, 5));
        due("there is no lab 1 then", x.time(0, 7), NONE);
    }

    /** A section may have no hours; a triple of such sections is lawful, and fits even who is always away. */
    private static void withoutHours() {
        promise = 6;
        SectionOffice x = new SectionOffice();
        due("lawful", x.section(3, 0, 0, 0, 2, -1), bit(0));
        due("time", x.time(3, 0), 0);
        x.section(3, 2, 0, 0, 2, -1);
        x.pupil(0, HOURS - 1, 8);
        due("fits", x.fits(0, 3), bit(0));
        due("why", x.why(0, 3, 0), 0);
        due("put", x.put(0, 3, 0), -1);
        due("taken", x.of(3, 0, 0, 4), 1);
        due("left", x.of(3, 2, 0, 5), 1);
        due("no day", x.its(0, 4), 0);
        due("still lawful", x.shut(3, 2, 0), 0);
        due("still put", x.its(0, 13), 0);
        due("line", lineOf(x, 0).equals("pupil d0--") ? 1 : 0, 1);
        due("ways", x.ways(3), 2);
    }

    private static void uneven() {
        promise = 7;
        SectionOffice x = whole(9, 5);
        for (int i = 0; i < 4; i++) {
            x.put(i, 0, 0);
        }
        x.put(4, 0, 7);
        due("4 and 1 of each sort", x.uneven(0), 9);
        x.shut(0, 2, 1);
        due("only drill 0 is open", x.uneven(0), 8);
        x.shut(0, 1, 1);
        due("only lab 0 either", x.uneven(0), 4);
        due("beyond", x.uneven(4), BEYOND);
        due("beyond", x.uneven(-1), BEYOND);
    }

    private static void pupils() {
        pupilAndLeave();
        its();
        change();
        as();
        fitsAndWhy();
        both();
    }

    private static void pupilAndLeave() {
        promise = 8;
        SectionOffice x = new SectionOffice();
        due("beyond", x.pupil(6, 0, 0), BEYOND);
        due("beyond", x.pupil(-1, 0, 0), BEYOND);
        due("beyond", x.pupil(0, HOURS, 0), BEYOND);
        due("beyond", x.pupil(0, -1, 0), BEYOND);
        due("beyond", x.pupil(0, 0, 16), BEYOND);
        due("beyond", x.pupil(0, 0, -1), BEYOND);
        for (int i = 0; i < 6; i++) {
            due("pupil", x.pupil(i, HOURS - 1, 15), i);
        }
        due("full", x.pupil(0, 0, 0), FULL);
        due("beyond comes first", x.pupil(6, 0, 0), BEYOND);

        promise = 9;
        for (int i = 5; i >= 0; i--) {
            due("leave", x.leave(), i);
        }
        due("none", x.leave(), NONE);
        SectionOffice y = whole(1, 1);
        y.pick(0, 0, 0);
        due("leave", y.leave(), 0);
        due("its seat is free", y.of(0, 0, 0, 4), 0);
        y.pupil(1, 0, 1);
        due("a new one is put to none", y.its(0, 10), -1);
    }

    private static void its() {
        promise = 10;
        SectionOffice x = whole(9, 0);
        x.section(2, 0, 1, bit(11, 19), 9, -1);
        x.pupil(3, bit(7), 5);
        x.put(0, 0, 7);
        x.put(0, 2, 4);
        int[] due = {3, bit(7), 5, bit(1, 3, 5, 11, 19), 4 + 3 + 2, 2};
        for (int what = 0; what < 6; what++) {
            due("its " + what, x.its(0, what), due[what]);
        }
        int[] put = {7, -1, 4, -1};
        for (int course = 0; course < 4; course++) {
            due("its " + (10 + course), x.its(0, 10 + course), put[course]);
        }
        for (int what : new int[] {-1, 6, 9, 14, MIN, MAX}) {
            due("beyond " + what, x.its(0, what), BEYOND);
        }
        due("beyond", x.its(1, 0), BEYOND);
        due("beyond", x.its(-1, 0), BEYOND);
    }

    private static void change() {
        promise = 11;
        SectionOffice x = whole(9, 1);
        x.section(1, 0, 0, bit(6), 9, -1);
        x.fill(0);
        due("kind", x.change(0, 0, 5), 0);
        due("away, busy", x.change(0, 1, bit(7, 6)), STATE);
        due("away", x.change(0, 1, bit(7)), 0);
        due("away again", x.change(0, 1, bit(8)), bit(7));
        due("wishes", x.change(0, 2, 14), 15);
        due("put to course 0 no more", x.its(0, 10), -1);
        due("to course 1 still", x.its(0, 11), 0);
        due("wishes what it did not", x.change(0, 2, 15), 14);
        due("and is put to none of it", x.its(0, 10), -1);
        int[][] wrongs = {{0, 0, 6}, {0, 0, -1}, {0, 1, HOURS}, {0, 1, -1}, {0, 2, 16}, {0, 2, -1}, {0, 3, 0},
            {0, -1, 0}, {1, 0, 0}, {-1, 0, 0}};
        for (int[] w : wrongs) {
            due("beyond", x.change(w[0], w[1], w[2]), BEYOND);
        }
    }

    private static void as() {
        promise = 12;
        SectionOffice x = new SectionOffice();
        x.section(0, 0, 0, bit(0, 3, 4, 8, 11), 9, -1);
        for (int kind = 0; kind < 6; kind++) {
            x.pupil(kind, 0, 1);
        }
        x.fill(0);
        int pupil = 3;
        int early = 5;
        int late = 6;
        int[] costs = {pupil, early, late, early + 4, 20 - late, 0};
        boolean[][] under = {{true, false, false, false, false, false}, {true, true, false, false, false, false},
            {true, false, true, false, false, false}, {true, true, false, true, false, false},
            {true, false, true, false, true, false}, {true, false, false, false, false, true}};
        for (int p = 0; p < 6; p++) {
            for (int kind = 0; kind < 6; kind++) {
                due(p + " as " + kind, x.as(p, kind), under[p][kind] ? costs[kind] : KIND);
            }
            due("cost of " + p, x.its(p, 4), costs[p]);
        }
        due("beyond", x.as(0, 6), BEYOND);
        due("beyond", x.as(0, -1), BEYOND);
        due("beyond", x.as(6, 0), BEYOND);
        due("beyond", x.as(-1, 0), BEYOND);
    }

    private static void fitsAndWhy() {
        promise = 13;
        SectionOffice x = whole(2, 0);
        x.section(0, 1, 1, bit(3), 1, -1);
        x.section(1, 0, 0, bit(5), 9, -1);
        x.pupil(0, bit(0), 3);
        x.pupil(0, 0, 1);
        x.pupil(0, 0, 2);
        due("away at lecture 0", x.fits(0, 0), 0xF0);
        due("all", x.fits(1, 0), 255);
        due("doesn't wish it", x.fits(2, 0), NONE);
        x.put(0, 1, 0);
        due("busy at drill 1", x.fits(0, 0), bit(4, 6));
        x.put(1, 0, 3);
        due("lab 1 is full", x.fits(0, 0), bit(4));
        due("its own seat counts as free", x.fits(1, 0), 255);
        due("beyond", x.fits(3, 0), BEYOND);
        due("beyond", x.fits(-1, 0), BEYOND);
        due("beyond", x.fits(0, 4), BEYOND);
        due("beyond", x.fits(0, -1), BEYOND);

        promise = 14;
        due("hours", x.why(0, 0, 0), 255 - bit(4, 6));
        due("seats", x.why(0, 0, 1), bit(6));
        due("its own seat", x.why(1, 0, 1), 0);
        x.shut(0, 0, 0);
        due("lawful ones alone", x.why(0, 0, 0), bit(5, 7));
        due("none", x.why(2, 0, 0), NONE);
        due("beyond", x.why(0, 0, 2), BEYOND);
        due("beyond", x.why(0, 0, -1), BEYOND);
        due("beyond comes first", x.why(2, 0, 2), BEYOND);
        due("beyond", x.why(3, 0, 0), BEYOND);
        due("beyond", x.why(0, 4, 0), BEYOND);
    }

    private static void both() {
        promise = 15;
        SectionOffice x = whole(9, 3);
        x.put(0, 0, 0);
        x.put(1, 0, 1);
        due("lecture 0 and lab 0", x.both(0, 1), bit(0, 2));
        due("with one who is free", x.both(1, 2), 0);
        due("one and the same", x.both(1, 1), BEYOND);
        due("beyond", x.both(0, 3), BEYOND);
        due("beyond", x.both(-1, 0), BEYOND);
    }

    private static void putAndPicked() {
        putAndOut();
        pick();
        pickByRules();
        would();
        fill();
        trade();
    }

    private static void putAndOut() {
        promise = 16;
        SectionOffice x = whole(1, 2);
        x.pupil(0, 0, 2);
        due("put", x.put(0, 0, 5), -1);
        due("put elsewhere", x.put(0, 0, 4), 5);
        due("put to the same", x.put(0, 0, 4), 4);
        due("lecture 1 is full", x.put(1, 0, 7), STATE);
        due("the other", x.put(1, 0, 3), -1);
        due("doesn't wish it", x.put(2, 0, 0), NONE);
        due("not lawful", x.put(2, 1, 0), STATE);
        due("beyond", x.put(0, 0, 8), BEYOND);
        due("beyond", x.put(0, 0, -1), BEYOND);
        due("beyond", x.put(0, 4, 0), BEYOND);
        due("beyond", x.put(3, 0, 0), BEYOND);

        promise = 17;
        due("out", x.out(1, 0), 3);
        due("its seat is free", x.of(0, 0, 0, 4), 0);
        due("again", x.out(1, 0), NONE);
        due("beyond", x.out(3, 0), BEYOND);
        due("beyond", x.out(0, 4), BEYOND);
        due("beyond", x.out(-1, -1), BEYOND);
    }

    private static void pick() {
        promise = 18;
        SectionOffice x = whole(1, 3);
        due("any", x.pick(0, 0, 0), 0);
        due("the next", x.pick(1, 0, 0), 7);
        due("none is left", x.pick(2, 0, 0), STATE);
        due("anew", x.pick(0, 0, 0), 0);
        due("no section", x.pick(0, 1, 0), STATE);
        x.change(2, 2, 14);
        due("doesn't wish it", x.pick(2, 0, 0), NONE);
        due("beyond", x.pick(0, 0, 5), BEYOND);
        due("beyond", x.pick(0, 0, -1), BEYOND);
        due("beyond", x.pick(0, 4, 0), BEYOND);
        due("beyond", x.pick(3, 0, 0), BEYOND);
        due("beyond comes first", x.pick(2, 0, 5), BEYOND);
    }

    private static void pickByRules() {
        SectionOffice x = new SectionOffice();
        x.section(0, 0, 0, bit(0, 4), 9, -1);
        x.section(0, 0, 1, bit(1, 2, 3), 2, -1);
        x.pupil(0, 0, 15);
        x.pupil(4, 0, 15);
        x.pupil(0, 0, 15);
        due("least cost: one day", x.would(0, 0, 1), 4);
        due("a night pupil's least: 20 less two days and two firsts", x.would(1, 0, 1), 0);
        due("like taken: the least number", x.would(0, 0, 2), 0);
        due("most left", x.would(0, 0, 3), 0);
        due("fewest hours", x.would(0, 0, 4), 0);
        x.put(2, 0, 0);
        due("least taken", x.would(0, 0, 2), 4);
        due("without itself", x.would(2, 0, 2), 0);
        due("most left, 8 to 2", x.would(0, 0, 3), 0);
        SectionOffice y = whole(9, 3);
        y.put(0, 0, 0);
        y.put(1, 0, 4);
        due("greatest taken: 2 by lab 0 or drill 0, else 1", y.would(2, 0, 2), 3);
        y.section(0, 1, 1, bit(3), 1, -1);
        y.section(0, 2, 0, bit(4), 3, -1);
        due("least left: 1 by lab 1 or drill 0, else 7", y.would(2, 0, 3), 1);
        y.section(1, 0, 0, bit(2, 3, 6), 9, -1);
        y.section(1, 0, 1, bit(7, 8), 9, -1);
        due("fewest hours", y.would(2, 1, 4), 4);
        due("two days each", y.would(2, 1, 1), 0);
    }

    private static void would() {
        promise = 19;
        SectionOffice x = whole(1, 2);
        due("would", x.would(0, 0, 0), 0);
        due("nothing is", x.its(0, 10), -1);
        due("no change", x.count(4), 8);
        x.pick(0, 0, 0);
        x.put(1, 0, 7);
        due("no section", x.would(0, 1, 0), STATE);
        due("told", x.status(4), 1);
        x.change(1, 2, 0);
        due("no wish", x.would(1, 0, 0), NONE);
        due("beyond", x.would(0, 0, 5), BEYOND);
        due("beyond", x.would(2, 0, 0), BEYOND);
        due("beyond", x.would(0, -1, 0), BEYOND);
        due("all are told", x.status(-1), 5);
    }

    private static void fill() {
        promise = 20;
        SectionOffice x = whole(2, 3);
        x.section(1, 0, 0, bit(0), 9, -1);
        x.put(2, 0, 7);
        due("fill", x.fill(0), 3);
        due("pupil 0, course 0", x.its(0, 10), 0);
        due("pupil 0, course 1 at the same hour", x.its(0, 11), -1);
        due("pupil 1", x.its(1, 10), 0);
        due("pupil 2 stays", x.its(2, 10), 7);
        due("pupil 2, course 1", x.its(2, 11), 0);
        SectionOffice y = whole(2, 3);
        due("by rule 2", y.fill(2), 3);
        due("pupil 1 is picked for where none is", y.its(1, 10), 7);
        due("nothing more", y.fill(2), 0);
        due("which is a change too", y.count(4), 11);
        due("by the last rule", y.fill(4), 0);
        due("beyond", y.fill(5), BEYOND);
        due("beyond", y.fill(-1), BEYOND);
    }

    private static void trade() {
        promise = 21;
        SectionOffice x = whole(1, 3);
        x.section(1, 0, 0, bit(9), 9, -1);
        x.put(0, 0, 0);
        x.put(1, 0, 7);
        due("though all is full", x.trade(0, 1, 0), 1);
        due("changed", x.its(0, 10), 7);
        due("changed", x.its(1, 10), 0);
        due("one is put to none", x.trade(0, 2, 0), NONE);
        due("one is put to none", x.trade(2, 0, 0), NONE);
        x.change(0, 1, bit(2));
        due("away", x.trade(0, 1, 0), STATE);
        due("away, the other way round", x.trade(1, 0, 0), STATE);
        x.change(0, 1, 0);
        x.section(1, 0, 0, bit(4), 9, -1);
        x.put(0, 1, 0);
        due("busy by course 1", x.trade(0, 1, 0), STATE);
        due("one and the same", x.trade(0, 0, 0), BEYOND);
        due("beyond", x.trade(0, 3, 0), BEYOND);
        due("beyond", x.trade(-1, 0, 0), BEYOND);
        due("beyond", x.trade(0, 1, 4), BEYOND);
    }

    private static void seatedAnew() {
        mostAndSeat();
        evens();
        chainAndLets();
        sixPupils();
        ways();
    }

    /** Pupil 0 sits where alone pupil 1 could, and could sit elsewhere. */
    private static SectionOffice blocked() {
        SectionOffice x = new SectionOffice();
        x.section(0, 0, 0, bit(0), 1, -1);
        x.section(0, 0, 1, bit(1), 1, -1);
        x.pupil(0, 0, 1);
        x.pupil(0, bit(1), 1);
        x.pupil(0, 0, 0);
        x.put(0, 0, 0);
        return x;
    }

    private static void mostAndSeat() {
        promise = 22;
        SectionOffice x = blocked();
        due("both", x.most(0), 2);
        due("none", x.most(1), 0);
        due("nothing is changed", x.its(1, 10), -1);
        due("beyond", x.most(4), BEYOND);
        due("beyond", x.most(-1), BEYOND);

        promise = 23;
        due("one moved", x.seat(0), 1);
        due("pupil 0", x.its(0, 10), 4);
        due("pupil 1", x.its(1, 10), 0);
        due("none moved", x.seat(0), 0);
        due("two changes", x.count(4), 8);
        due("beyond", x.seat(4), BEYOND);
        due("beyond", x.seat(-1), BEYOND);
        SectionOffice y = whole(1, 3);
        due("the first: pupil 0 none", y.seat(0), 0);
        due("digit 0", y.its(0, 10), -1);
        due("digit 1", y.its(1, 10), 0);
        due("digit 8", y.its(2, 10), 7);
        y.out(1, 0);
        due("fewest moved", y.seat(0), 0);
        due("whoever sits stays", y.its(2, 10), 7);
        due("the first again", y.its(0, 10), -1);
    }

    private static void evens() {
        promise = 24;
        SectionOffice x = whole(9, 4);
        due("2 and 2 of each", x.evens(0), 0);
        due("the first", x.its(0, 10), 0);
        due("the first", x.its(1, 10), 0);
        due("the rest", x.its(2, 10), 7);
        for (int i = 0; i < 4; i++) {
            x.put(i, 0, 3);
        }
        due("uneven", x.uneven(0), 12);
        due("even again", x.evens(0), 0);
        due("fewest moved: two", (x.its(0, 10) == 3 ? 1 : 0) + (x.its(1, 10) == 3 ? 1 : 0)
                + (x.its(2, 10) == 3 ? 1 : 0) + (x.its(3, 10) == 3 ? 1 : 0), 2);
        due("the first of these", x.its(0, 10), 3);
        x.leave();
        x.out(2, 0);
        x.section(0, 0, 1, bit(1), 0, -1);
        due("most come first: 3 and 0, 2 and 1, 2 and 1", x.evens(0), 3 + 1 + 1);
        due("beyond", x.evens(4), BEYOND);
        due("beyond", x.evens(-1), BEYOND);
    }

    private static void chainAndLets() {
        promise = 25;
        SectionOffice x = blocked();
        due("one other", x.chain(1, 0), 1);
        due("put already", x.chain(0, 0), STATE);
        due("no wish", x.chain(2, 0), NONE);
        x.change(2, 2, 1);
        due("none at all", x.chain(2, 0), 0);
        x.put(2, 0, 4);
        due("no such seating: all three can't sit", x.chain(1, 0), NONE);
        due("beyond", x.chain(3, 0), BEYOND);
        due("beyond", x.chain(0, 4), BEYOND);
        due("beyond", x.chain(-1, 0), BEYOND);

        promise = 26;
        due("likewise", x.lets(1, 0), NONE);
        due("likewise", x.lets(0, 0), STATE);
        due("likewise", x.lets(0, 4), BEYOND);
        due("likewise", x.lets(3, 0), BEYOND);
        x.out(2, 0);
        due("let in", x.lets(1, 0), 0);
        due("the other moved", x.its(0, 10), 4);
        due("one that isn't asked for stays out", x.its(2, 10), -1);
        due("undo", x.undo() >= 0 ? x.its(0, 10) : -9, 0);
        due("one step", x.its(1, 10), -1);
    }

    /** All six wish, and each moves on by one: whoever sits in lecture 0 with lab 0 is in the way of the next. */
    private static void sixPupils() {
        promise = 23;
        SectionOffice x = new SectionOffice();
        for (int part = 0; part < 4; part++) {
            x.section(2, part / 2, part % 2, bit(part), 3, -1);
        }
        for (int i = 0; i < 6; i++) {
            x.pupil(0, i < 3 ? 0 : bit(1), 4);
        }
        for (int i = 0; i < 3; i++) {
            x.put(i, 2, 0);
        }
        due("all six", x.most(2), 6);
        due("one other", x.chain(5, 2), 1);
        due("let in, lab 0 being full yet", x.lets(5, 2), 2);
        due("the last that sat moved: digits 1, 1, 5", x.its(2, 12), 4);
        due("others sit yet", x.its(0, 12) + x.its(1, 12), 0);
        due("moved", x.seat(2), 2);
        int[] seats = {4, 4, 4, 2, 2, 0};
        for (int i = 0; i < 6; i++) {
            due("pupil " + i + " " + x.its(i, 12), x.its(i, 12) >> 2, seats[i] >> 2);
        }
        due("each sort is even already", x.evens(2), 0);
        due("taken", x.of(2, 1, 1, 4), 3);
    }

    private static void ways() {
        promise = 27;
        SectionOffice x = whole(9, 6);
        due("9 to the 6th", x.ways(0), 531441);
        x.change(0, 2, 0);
        due("one doesn't wish it", x.ways(0), 59049);
        SectionOffice y = whole(1, 2);
        due("none, eight and eight, eight pairs", y.ways(0), 1 + 16 + 8);
        y.seat(0);
        due("whoever sits now", y.ways(0), 1 + 16 + 8);
        due("beyond", y.ways(4), LONG_LOW);
        due("beyond", y.ways(-1), LONG_LOW);
        due("told", y.status(0), 2);
    }

    private static void ordersAndDraws() {
        promise = 28;
        SectionOffice x = whole(9, 2);
        x.sheet(0, 2, 11);
        long[] row = {1, 0, 2, 0, 1, 0, 4294967296L, 0, 0, 0, 0};
        for (int i = 0; i < row.length; i++) {
            x.write(0, i, row[i]);
        }
        due("one of three", x.orders(0), 1);
        due("pupil 1", x.its(1, 10), 0);
        due("pupil 0 had a long that is no pupil, and two numbers", x.its(0, 10), -1);
        due("no finding is told", x.status(-1), 0);
        x.sheet(1, 2, 6);
        long[] longs = {0, 1L << 32, 0, 0, 0, 1L << 32};
        for (int i = 0; i < longs.length; i++) {
            x.write(1, i, longs[i]);
        }
        due("longs that are no course, no rule", x.orders(1), 0);
        x.undo();
        x.sheet(1, -1, 0);
        x.sheet(0, 0, 0);
        due("an empty one", x.orders(0), 0);
        due("both are changes", x.count(4), 10);
        due("missing", x.orders(1), MISSING);
        due("beyond", x.orders(4), BEYOND);
        due("beyond", x.orders(-1), BEYOND);

        promise = 29;
        int z = 77;
        x.seed(z);
        for (int i = 0; i < 3; i++) {
            z = z * 1103515245 + 12345;
        }
        due("beyond", x.loose(0), BEYOND);
        due("beyond", x.loose(21), BEYOND);
        due("no draw yet", x.count(5), 77);
        x.loose(1);
        due("three draws", x.count(5), z);
        due("a change", x.count(4), 11);
        looseAsOrders();

        promise = 30;
        due("seed", x.seed(-5), z);
        due("seed", x.seed(6), -5);
        due("no change", x.count(4), 11);
    }

    private static void looseAsOrders() {
        SectionOffice x = whole(9, 6);
        SectionOffice y = whole(9, 6);
        y.sheet(0, 1, 39);
        int z = 1;
        for (int i = 0; i < 39; i++) {
            z = z * 1103515245 + 12345;
            y.write(0, i, (z >>> 8) % (i % 3 == 0 ? 6 : i % 3 == 1 ? 4 : 5));
        }
        due("as orders", x.loose(13), y.orders(0));
        for (int p = 0; p < 6; p++) {
            due("pupil " + p, x.its(p, 10), y.its(p, 10));
        }
    }

    private static void texts() {
        feedAndWipe();
        text();
        faults();
        line();
    }

    private static void feedAndWipe() {
        promise = 31;
        SectionOffice x = new SectionOffice();
        due("beyond", x.feed(0, 0), BEYOND);
        due("beyond", x.feed(0, 5), BEYOND);
        due("the highest of the lowest two first", x.feed(0x7A7A6672, 2), 2);
        due("all four", x.feed(0x65652020, 4), 6);
        due("it says free", x.text(), 1);
        due("kind", x.its(0, 0), 5);
        for (int i = 1; i <= 29; i++) {
            due("four more", x.feed(0, 4), 4 * i);
        }
        due("three more", x.feed(0, 3), 119);
        due("full", x.feed(0, 2), FULL);
        due("one more", x.feed(0, 1), 120);
        due("full", x.feed(0, 1), FULL);

        promise = 32;
        due("wipe", x.wipe(), 120);
        due("wipe", x.wipe(), 0);
        due("none", x.count(6), 0);
    }

    private static void text() {
        promise = 33;
        SectionOffice x = new SectionOffice();
        due("items", tell(x, "  lecture b 1 3 19 3 cap 7 ;  lab b 0 0 10 cap 0 with 1 ; drill b 0 5 cap 9 with 0 "), 3);
        due("time", x.of(1, 0, 1, 1), bit(3, 19));
        due("cap", x.of(1, 0, 1, 2), 7);
        due("link", x.of(1, 0, 1, 3), -1);
        due("time", x.of(1, 1, 0, 1), bit(0, 10));
        due("link", x.of(1, 1, 0, 3), 1);
        due("link", x.of(1, 2, 0, 3), 0);
        due("one change", x.count(4), 1);
        due("the tape is empty", x.count(6), 0);
        due("pupils", tell(x, "pupil ; early away 1 1 2 ; late wish b d b ; athlete away 19 wish a ; night ; free"), 6);
        int[][] due = {{0, 0, 0}, {1, bit(1, 2), 0}, {2, 0, 10}, {3, bit(19), 1}, {4, 0, 0}, {5, 0, 0}};
        for (int p = 0; p < 6; p++) {
            for (int what = 0; what < 3; what++) {
                due(p + "'s " + what, x.its(p, what), due[p][what]);
            }
        }
        due("undone at once", x.undo(), 1);
        due("no pupils", x.count(0), 0);
    }

    private static void faults() {
        Object[][] faults = {{"", 0}, {"   ", 3}, {"pupils", 0}, {" ;", 1}, {"pupil ;", 7}, {"pupil ; ", 8},
            {"pupil pupil", 6}, {"pupil away", 10}, {"pupil away wish", 11}, {"pupil away 20", 11},
            {"pupil away 01", 11}, {"pupil away 1x", 11}, {"pupil away 1: 2", 11}, {"pupil away 1/", 11},
            {"pupil away 2 21", 13}, {"pupil away 100", 11}, {"pupil away 1 -1", 13}, {"pupil wish", 10}, {"pupil wish e", 11},
            {"pupil wish a away 1", 13}, {"pupil wish ab", 11}, {"lab", 3}, {"lab e", 4}, {"lab a", 5}, {"lab a 2", 6},
            {"lab a 0", 7}, {"lab a 0 cap", 8}, {"lab a 0 1", 9}, {"lab a 0 1 with", 10}, {"lab a 0 1 cap", 13},
            {"lab a 0 1 cap 10", 14}, {"lab a 0 1 cap 1 with", 20}, {"lab a 0 1 cap 1 with 2", 21},
            {"lab a 0 1 cap 1 1", 16}, {"Lab a 0 1 cap 1", 0}, {"pupil;", 0}, {"pupil ;; pupil", 6},
            {"lab a 0 1 cap 1 ; x", 18}, {"pupil\tawayy", 0}, {"\u00e9", 0}};
        for (Object[] f : faults) {
            SectionOffice x = new SectionOffice();
            due("text '" + f[0] + "'", tell(x, (String) f[0]), -1 - (int) f[1]);
            due("nothing changed", x.count(0) + x.count(1) + x.count(4) + x.count(6), 0);
            due("no finding", x.status(-1), 0);
        }
        SectionOffice x = new SectionOffice();
        tell(x, "lecture a 0 1 cap 2 ; pupil wish a ; pupil wish a ; pupil ; pupil ; pupil");
        x.fill(0);
        due("a 7th pupil", tell(x, "pupil ; late away x"), -1 - 8);
        due("a cap is passed", tell(x, "lecture a 0 2 cap 1"), -1 - 18);
        due("the last word is that of the link", tell(x, "free ; lab a 1 2 cap 1 with 0 ; x"), -1 - 28);
        due("nothing changed", x.count(0), 5);
        due("no lab", x.count(1), 1);
        due("the lecture as it was", x.of(0, 0, 0, 1), 2);
        due("no finding", x.status(-1), 0);
    }

    private static void line() {
        promise = 34;
        SectionOffice x = whole(9, 1);
        x.section(3, 0, 1, bit(10), 9, -1);
        x.section(3, 2, 0, bit(11), 9, -1);
        String[] kinds = {"pupil", "early", "late", "athlete", "night", "free"};
        x.put(0, 0, 3);
        x.put(0, 3, 4);
        for (int kind = 0; kind < 6; kind++) {
            x.change(0, 0, kind);
            String due = kinds[kind] + " a011 d1-0";
            due("line '" + lineOf(x, 0) + "', due '" + due + "'", lineOf(x, 0).equals(due) ? 1 : 0, 1);
            due("no such sign", x.line(0, due.length()), NONE);
        }
        due("length", x.line(0, -1), 14);
        due("no such sign", x.line(0, -2), NONE);
        due("no such sign", x.line(0, MAX), NONE);
        due("no such sign", x.line(0, MIN), NONE);
        due("beyond", x.line(1, 0), BEYOND);
        due("beyond", x.line(-1, -1), BEYOND);
    }

    private static void sheets() {
        promise = 35;
        SectionOffice x = new SectionOffice();
        due("sheet", x.sheet(0, 0, 40), 40);
        due("size", x.sheet(0, 0, -1), SIZE);
        due("beyond", x.sheet(0, 0, 41), BEYOND);
        due("beyond", x.sheet(0, 3, -1), BEYOND);
        due("beyond", x.sheet(0, -2, 1), BEYOND);
        due("beyond", x.sheet(4, 0, 1), BEYOND);
        due("beyond", x.sheet(-1, 0, 1), BEYOND);
        due("it stands yet", x.item(0, 39), 0);
        x.write(0, 3, 9);
        due("anew", x.sheet(0, 0, 4), 4);
        due("all 0", x.item(0, 3), 0);
        due("missing", x.sheet(0, -1, MIN), 0);
        due("missing", x.item(0, 0), LONG_LOW - 5);
        due("no change", x.count(4), 0);

        promise = 36;
        x.sheet(0, 0, 2);
        x.sheet(1, 1, 2);
        x.sheet(2, 2, 2);
        for (int s = 0; s < 3; s++) {
            due("write", x.write(s, 1, -3L << 40 | 0x1F0000080L), 1);
        }
        due("missing", x.write(3, 0, 1), MISSING);
        due("beyond", x.write(4, 0, 1), BEYOND);
        due("beyond", x.write(-1, 0, 1), BEYOND);
        due("beyond", x.write(0, 2, 1), BEYOND);
        due("beyond", x.write(0, -1, 1), BEYOND);

        promise = 37;
        due("a byte", x.item(0, 1), -128);
        due("an int", x.item(1, 1), 0xF0000080);
        due("a long", x.item(2, 1), -3L << 40 | 0x1F0000080L);
        due("missing", x.item(3, 0), LONG_LOW - 5);
        due("beyond", x.item(4, 0), LONG_LOW);
        due("beyond", x.item(0, 2), LONG_LOW);
        due("beyond", x.item(0, -1), LONG_LOW);
        copy();
    }

    private static void copy() {
        promise = 38;
        SectionOffice x = new SectionOffice();
        x.sheet(0, 2, 5);
        x.sheet(1, 2, 3);
        x.sheet(2, 1, 3);
        for (int i = 0; i < 5; i++) {
            x.write(0, i, i + 1);
        }
        due("forward, over itself", x.copy(0, 0, 0, 1, 4), 4);
        int[] due = {1, 1, 2, 3, 4};
        for (int i = 0; i < 5; i++) {
            due("number " + i, x.item(0, i), due[i]);
        }
        due("to another", x.copy(0, 2, 1, 0, 3), 3);
        due("its last", x.item(1, 2), 4);
        due("none, at the ends", x.copy(0, 5, 1, 3, 0), 0);
        int[][] beyonds = {{4, 0, 0, 0, 0}, {0, 0, 4, 0, 0}, {-1, 0, 3, 0, 0}, {0, 0, 1, 0, 4}, {0, 3, 1, 0, 3},
            {0, 0, 1, 1, 3}, {0, 6, 1, 0, 0}, {0, 0, 1, 4, 0}, {0, -1, 1, 0, 1}, {0, 0, 1, -1, 1}, {0, 0, 1, 0, -1},
            {0, MAX, 1, 0, 1}, {0, 1, 1, 1, MAX}, {0, MAX, 1, MAX, MAX}, {0, 0, 1, 0, MIN}};
        for (int[] b : beyonds) {
            due("beyond", x.copy(b[0], b[1], b[2], b[3], b[4]), BEYOND);
        }
        due("missing", x.copy(3, 0, 0, 0, 0), MISSING);
        due("missing comes ahead of kind", x.copy(2, 0, 3, 0, 0), MISSING);
        due("kind comes ahead of beyond", x.copy(0, 0, 2, 0, 99), KIND);
    }

    private static void undoneAndTold() {
        undo();
        count();
        status();
    }

    private static void undo() {
        promise = 39;
        SectionOffice x = new SectionOffice();
        for (int i = 0; i < 40; i++) {
            x.section(0, 0, 0, i, 1, -1);
        }
        due("30 at most", x.count(4), 30);
        for (int i = 29; i >= 0; i--) {
            due("undo", x.undo(), i);
            due("time", x.of(0, 0, 0, 1), 10 + i - 1);
        }
        due("none", x.undo(), NONE);
        x.section(0, 0, 0, 77, 1, -1);
        due("what failed is no change", x.section(0, 0, 0, -1, 1, -1), BEYOND);
        due("undo", x.undo(), 0);
        due("time", x.of(0, 0, 0, 1), 9);
    }

    private static void count() {
        promise = 40;
        SectionOffice x = whole(9, 3);
        x.section(1, 0, 0, bit(11), 9, -1);
        x.put(0, 0, 0);
        x.put(0, 1, 0);
        x.put(1, 0, 0);
        feed(x, "abc");
        int[] due = {3, 7, 3, 3 + 2, 13, 1, 3, 12 - 3};
        for (int what = 0; what < 8; what++) {
            due("count " + what, x.count(what), due[what]);
        }
        due("beyond", x.count(8), BEYOND);
        due("beyond", x.count(-1), BEYOND);
    }

    private static void status() {
        promise = 41;
        SectionOffice x = new SectionOffice();
        x.triples(9);
        x.ways(9);
        x.undo();
        x.item(0, 0);
        x.sheet(0, 0, -1);
        x.pupil(0, 0, 0);
        x.as(0, 1);
        x.change(0, 2, 1);
        x.pick(0, 0, 0);
        for (int i = 0; i < 6; i++) {
            x.pupil(0, 0, 0);
        }
        int[] due = {2, 1, 1, 1, 1, 1, 1, 0};
        for (int k = 0; k < 8; k++) {
            due("status " + k, x.status(k), due[k]);
        }
        due("all", x.status(-1), 8);
        due("beyond", x.status(8), BEYOND);
        due("beyond", x.status(-2), BEYOND);
        due("counted from then on", x.status(0), 4);
        x.undo();
        due("undo takes none back", x.status(-1), 10);
    }
}
