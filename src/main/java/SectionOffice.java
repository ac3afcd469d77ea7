/**
 * A section office: four courses of linked lectures, labs and drills, and the pupils that sit in them.
 * Every row is made when the object is made; no call makes anything, so a run needs no more room than its objects.
 */
public final class SectionOffice {
    private static final int LOW = -1000001;
    private static final long LONG_LOW = -1000000000000000001L;
    private static final int BEYOND = 0;
    private static final int FULL = 1;
    private static final int KIND_FINDING = 2;
    private static final int NONE = 3;
    private static final int STATE = 4;
    private static final int MISSING = 5;
    private static final int SIZE = 6;
    private static final int FINDINGS = 8;

    private static final int COURSES = 4;
    private static final int SORTS = 3;
    private static final int TRIPLES = 8;
    private static final int MOST_PUPILS = 6;
    private static final int KINDS = 6;
    private static final int RULES = 5;
    private static final int MOST_CAP = 9;
    private static final int ALL_HOURS = 0xFFFFF;
    private static final int ALL_COURSES = 15;
    private static final int MOST_LOOSE = 20;

    private static final int MOST_SEATED = 10000;
    private static final int LEAST_UNEVEN = 100;
    private static final int FEWEST_MOVED = 1;

    private final Book book;
    private final Past past;
    private final Seating seating;
    private final Tape tape;
    private final Sheets sheets;
    private final int[] told;
    private int z;

    public SectionOffice() {
        book = new Book();
        past = new Past();
        seating = new Seating();
        tape = new Tape();
        sheets = new Sheets();
        told = new int[FINDINGS];
        z = 1;
    }

    // ---- sections

    public int section(int course, int sort, int which, int time, int cap, int link) {
        if (!isSection(course, sort, which) || !isHours(time)
                || !within(cap, 0, MOST_CAP) || !within(link, -1, 1)) {
            return finding(BEYOND);
        }
        past.mark(book);
        if (!book.opens(course, sort, which, time, cap, link)) {
            past.bringBack(book);
            return finding(STATE);
        }
        past.keep();
        return book.lawfulSet(course);
    }

    public int shut(int course, int sort, int which) {
        if (!isSection(course, sort, which)) {
            return finding(BEYOND);
        }
        if (!book.isOpen(course, sort, which)) {
            return finding(NONE);
        }
        begin();
        return book.closes(course, sort, which);
    }

    public int of(int course, int sort, int which, int what) {
        if (!isSection(course, sort, which) || !within(what, 0, 5)) {
            return finding(BEYOND);
        }
        boolean open = book.isOpen(course, sort, which);
        if (what == 0) {
            return open ? 1 : 0;
        }
        if (!open) {
            return finding(NONE);
        }
        if (what <= 3) {
            return book.ofSection(course, sort, which, what);
        }
        int taken = book.taken(course, sort, which, -1);
        return what == 4 ? taken : book.ofSection(course, sort, which, Book.CAP) - taken;
    }

    public int triples(int course) {
        if (!isCourse(course)) {
            return finding(BEYOND);
        }
        return book.lawfulSet(course);
    }

    public int time(int course, int triple) {
        if (!isCourse(course) || !within(triple, 0, TRIPLES - 1)) {
            return finding(BEYOND);
        }
        int hours = book.hoursOf(course, triple);
        return hours < 0 ? finding(NONE) : hours;
    }

    public int uneven(int course) {
        if (!isCourse(course)) {
            return finding(BEYOND);
        }
        return book.unevenness(course);
    }

    // ---- pupils

    public int pupil(int kind, int away, int wishes) {
        if (!isKind(kind) || !isHours(away) || !within(wishes, 0, ALL_COURSES)) {
            return finding(BEYOND);
        }
        if (book.pupils() >= MOST_PUPILS) {
            return finding(FULL);
        }
        begin();
        return book.comes(kind, away, wishes);
    }

    public int leave() {
        if (book.pupils() == 0) {
            return finding(NONE);
        }
        begin();
        return book.lastGoes();
    }

    public int its(int pupil, int what) {
        if (!isPupil(pupil) || !(within(what, 0, 5) || within(what, 10, 13))) {
            return finding(BEYOND);
        }
        if (what <= 2) {
            return book.ofPupil(pupil, what);
        }
        if (what == 3) {
            return book.busy(pupil, -1);
        }
        if (what == 4) {
            return book.price(pupil);
        }
        return what == 5 ? book.sitsIn(pupil) : book.sits(pupil, what - 10);
    }

    public int change(int pupil, int what, int v) {
        if (!isPupil(pupil) || !canBecome(what, v)) {
            return finding(BEYOND);
        }
        if (what == Book.AWAY && (v & book.busy(pupil, -1)) != 0) {
            return finding(STATE);
        }
        begin();
        return book.becomes(pupil, what, v);
    }

    public int as(int pupil, int kind) {
        if (!isPupil(pupil) || !isKind(kind)) {
            return finding(BEYOND);
        }
        if (!Kinds.isUnder(book.ofPupil(pupil, Book.KIND), kind)) {
            return finding(KIND_FINDING);
        }
        return Kinds.price(kind, book.busy(pupil, -1));
    }

    public int fits(int pupil, int course) {
        if (!isPupil(pupil) || !isCourse(course)) {
            return finding(BEYOND);
        }
        if (!book.wishes(pupil, course)) {
            return finding(NONE);
        }
        return book.freeSet(pupil, course) & ~book.crowded(pupil, course);
    }

    public int why(int pupil, int course, int what) {
        if (!isPupil(pupil) || !isCourse(course) || !within(what, 0, 1)) {
            return finding(BEYOND);
        }
        if (!book.wishes(pupil, course)) {
            return finding(NONE);
        }
        int free = book.freeSet(pupil, course);
        if (what == 0) {
            return book.lawfulSet(course) & ~free;
        }
        return free & book.crowded(pupil, course);
    }

    public int both(int pupil, int other) {
        if (!isPupil(pupil) || !isPupil(other) || pupil == other) {
            return finding(BEYOND);
        }
        return book.busy(pupil, -1) & book.busy(other, -1);
    }

    // ---- put, picked

    public int put(int pupil, int course, int triple) {
        if (!isPupil(pupil) || !isCourse(course) || !within(triple, 0, TRIPLES - 1)) {
            return finding(BEYOND);
        }
        if (!book.wishes(pupil, course)) {
            return finding(NONE);
        }
        int fitting = book.freeSet(pupil, course) & ~book.crowded(pupil, course);
        if ((fitting >> triple & 1) == 0) {
            return finding(STATE);
        }
        begin();
        return book.sitsNow(pupil, course, triple);
    }

    public int out(int pupil, int course) {
        if (!isPupil(pupil) || !isCourse(course)) {
            return finding(BEYOND);
        }
        if (book.sits(pupil, course) < 0) {
            return finding(NONE);
        }
        begin();
        return book.sitsNow(pupil, course, -1);
    }

    public int pick(int pupil, int course, int rule) {
        int triple = choice(pupil, course, rule);
        if (triple < 0) {
            return finding(-1 - triple);
        }
        begin();
        book.sitsNow(pupil, course, triple);
        return triple;
    }

    public int would(int pupil, int course, int rule) {
        int triple = choice(pupil, course, rule);
        return triple < 0 ? finding(-1 - triple) : triple;
    }

    public int fill(int rule) {
        if (!within(rule, 0, RULES - 1)) {
            return finding(BEYOND);
        }
        begin();
        int done = 0;
        for (int pupil = 0; pupil < book.pupils(); pupil++) {
            for (int course = 0; course < COURSES; course++) {
                if (book.sits(pupil, course) < 0) {
                    done += carriedOut(pupil, course, rule);
                }
            }
        }
        return done;
    }

    public int trade(int pupil, int other, int course) {
        if (!isPupil(pupil) || !isPupil(other) || pupil == other || !isCourse(course)) {
            return finding(BEYOND);
        }
        int mine = book.sits(pupil, course);
        int theirs = book.sits(other, course);
        if (mine < 0 || theirs < 0) {
            return finding(NONE);
        }
        if ((book.freeSet(pupil, course) >> theirs & 1) == 0
                || (book.freeSet(other, course) >> mine & 1) == 0) {
            return finding(STATE);
        }
        begin();
        book.sitsNow(pupil, course, theirs);
        book.sitsNow(other, course, mine);
        return 1;
    }

    // ---- a course seated anew

    public int most(int course) {
        if (!isCourse(course)) {
            return finding(BEYOND);
        }
        seating.prepare(book, course);
        seating.finds(MOST_SEATED, 0, 0);
        return seating.seated();
    }

    public int seat(int course) {
        if (!isCourse(course)) {
            return finding(BEYOND);
        }
        begin();
        seating.prepare(book, course);
        if (seating.finds(MOST_SEATED, 0, FEWEST_MOVED)) {
            seating.becomesSo(book, course);
        }
        return seating.moved();
    }

    public int evens(int course) {
        if (!isCourse(course)) {
            return finding(BEYOND);
        }
        begin();
        seating.prepare(book, course);
        if (seating.finds(MOST_SEATED, LEAST_UNEVEN, FEWEST_MOVED)) {
            seating.becomesSo(book, course);
        }
        return book.unevenness(course);
    }

    public int chain(int pupil, int course) {
        int how = letIn(pupil, course);
        return how < 0 ? finding(-1 - how) : how;
    }

    public int lets(int pupil, int course) {
        int how = letIn(pupil, course);
        if (how < 0) {
            return finding(-1 - how);
        }
        begin();
        seating.becomesSo(book, course);
        return book.sits(pupil, course);
    }

    public long ways(int course) {
        if (!isCourse(course)) {
            return longFinding(BEYOND);
        }
        seating.prepare(book, course);
        return seating.howMany();
    }

    public int orders(int s) {
        if (!sheets.isOne(s)) {
            return finding(BEYOND);
        }
        if (sheets.isMissing(s)) {
            return finding(MISSING);
        }
        begin();
        int done = 0;
        for (int i = 0; i + 2 < sheets.length(s); i += 3) {
            done += carriedOut(sheets.at(s, i), sheets.at(s, i + 1), sheets.at(s, i + 2));
        }
        return done;
    }

    public int loose(int n) {
        if (!within(n, 1, MOST_LOOSE)) {
            return finding(BEYOND);
        }
        begin();
        int done = 0;
        for (int i = 0; i < n; i++) {
            int pupil = draw() % MOST_PUPILS;
            int course = draw() % COURSES;
            int rule = draw() % RULES;
            done += carriedOut(pupil, course, rule);
        }
        return done;
    }

    public int seed(int v) {
        int was = z;
        z = v;
        return was;
    }

    // ---- texts, lines

    public int feed(int bytes, int n) {
        if (!within(n, 1, 4)) {
            return finding(BEYOND);
        }
        if (!tape.hasRoom(n)) {
            return finding(FULL);
        }
        return tape.gets(bytes, n);
    }

    public int wipe() {
        return tape.empties();
    }

    public int text() {
        past.mark(book);
        int items = readAll();
        tape.empties();
        if (items < 0) {
            past.bringBack(book);
        } else {
            past.keep();
        }
        return items;
    }

    public int line(int pupil, int k) {
        if (!isPupil(pupil)) {
            return finding(BEYOND);
        }
        String word = Kinds.word(book.ofPupil(pupil, Book.KIND));
        int length = word.length() + 5 * book.sitsIn(pupil);
        if (k == -1) {
            return length;
        }
        if (!within(k, 0, length - 1)) {
            return finding(NONE);
        }
        if (k < word.length()) {
            return word.charAt(k);
        }
        return book.sign(pupil, (k - word.length()) / 5, (k - word.length()) % 5);
    }

    // ---- sheets

    public int sheet(int s, int sort, int n) {
        if (!sheets.isOne(s) || !within(sort, -1, 2)) {
            return finding(BEYOND);
        }
        if (sort == -1) {
            return sheets.becomes(s, sort, 0);
        }
        if (n < 0) {
            return finding(SIZE);
        }
        if (n > Sheets.LONGEST) {
            return finding(BEYOND);
        }
        return sheets.becomes(s, sort, n);
    }

    public int write(int s, int i, long v) {
        if (!sheets.isOne(s)) {
            return finding(BEYOND);
        }
        if (sheets.isMissing(s)) {
            return finding(MISSING);
        }
        if (!sheets.has(s, i)) {
            return finding(BEYOND);
        }
        sheets.set(s, i, v);
        return 1;
    }

    public long item(int s, int i) {
        if (!sheets.isOne(s)) {
            return longFinding(BEYOND);
        }
        if (sheets.isMissing(s)) {
            return longFinding(MISSING);
        }
        if (!sheets.has(s, i)) {
            return longFinding(BEYOND);
        }
        return sheets.at(s, i);
    }

    public int copy(int s, int i, int t, int j, int n) {
        if (!sheets.isOne(s) || !sheets.isOne(t)) {
            return finding(BEYOND);
        }
        if (sheets.isMissing(s) || sheets.isMissing(t)) {
            return finding(MISSING);
        }
        if (sheets.sortOf(s) != sheets.sortOf(t)) {
            return finding(KIND_FINDING);
        }
        if (!sheets.hasRow(s, i, n) || !sheets.hasRow(t, j, n)) {
            return finding(BEYOND);
        }
        sheets.carry(s, i, t, j, n);
        return n;
    }

    // ---- what is undone, told

    public int undo() {
        if (past.kept() == 0) {
            return finding(NONE);
        }
        return past.goBack(book);
    }

    public int count(int what) {
        switch (what) {
            case 0:
                return book.pupils();
            case 1:
                return book.openSections();
            case 2:
                return book.seats();
            case 3:
                return book.priceOfAll();
            case 4:
                return past.kept();
            case 5:
                return z;
            case 6:
                return tape.length();
            case 7:
                return book.openWishes();
            default:
                return finding(BEYOND);
        }
    }

    public int status(int which) {
        if (within(which, 0, FINDINGS - 1)) {
            return told[which];
        }
        if (which != -1) {
            return finding(BEYOND);
        }
        int all = 0;
        for (int k = 0; k < FINDINGS; k++) {
            all += told[k];
        }
        return all;
    }

    // ---- what several acts need

    private int finding(int k) {
        if (within(k, 0, FINDINGS - 1)) {
            told[k]++;
        }
        return LOW - k;
    }

    private long longFinding(int k) {
        finding(k);
        return LONG_LOW - k;
    }

    /** What comes next is a change that nothing refuses any more. */
    private void begin() {
        past.mark(book);
        past.keep();
    }

    /** The triple that pick() takes, or -1 less the finding. */
    private int choice(int pupil, int course, int rule) {
        if (!isPupil(pupil) || !isCourse(course) || !within(rule, 0, RULES - 1)) {
            return -1 - BEYOND;
        }
        if (!book.wishes(pupil, course)) {
            return -1 - NONE;
        }
        int triple = book.choose(pupil, course, rule);
        return triple < 0 ? -1 - STATE : triple;
    }

    /** Numbers of a sheet may be longs: one that only looks like a pupil when cut to an int is none. */
    private int carriedOut(long pupil, long course, long rule) {
        if (pupil != (int) pupil || course != (int) course || rule != (int) rule) {
            return 0;
        }
        int triple = choice((int) pupil, (int) course, (int) rule);
        if (triple < 0) {
            return 0;
        }
        book.sitsNow((int) pupil, (int) course, triple);
        return 1;
    }

    /** How many others move that the pupil may sit, the seating being found then; or -1 less the finding. */
    private int letIn(int pupil, int course) {
        if (!isPupil(pupil) || !isCourse(course)) {
            return -1 - BEYOND;
        }
        if (!book.wishes(pupil, course)) {
            return -1 - NONE;
        }
        if (book.sits(pupil, course) >= 0) {
            return -1 - STATE;
        }
        seating.prepare(book, course);
        seating.mustSit(pupil);
        return seating.finds(0, 0, FEWEST_MOVED) ? seating.moved() : -1 - NONE;
    }

    /** How many items of the tape came to the book; or -1 less the fault, the book being changed in part. */
    private int readAll() {
        tape.rewind();
        for (int items = 1; items <= Tape.LONGEST; items++) {
            if (!tape.readItem(book.pupils() >= MOST_PUPILS)) {
                return -1 - tape.place();
            }
            if (tape.kind >= 0) {
                book.comes(tape.kind, tape.hours, tape.wishes);
            } else if (!book.opens(tape.course, tape.sort, tape.which, tape.hours, tape.cap, tape.link)) {
                return -1 - tape.lastPlace();
            }
            if (tape.atEnd()) {
                return items;
            }
            if (!tape.readSemicolon()) {
                return -1 - tape.place();
            }
        }
        return -1 - tape.place();
    }

    private int draw() {
        z = z * 1103515245 + 12345;
        return z >>> 8;
    }

    private boolean isPupil(int pupil) {
        return within(pupil, 0, book.pupils() - 1);
    }

    private static boolean canBecome(int what, int v) {
        switch (what) {
            case Book.KIND:
                return isKind(v);
            case Book.AWAY:
                return isHours(v);
            case Book.WISHES:
                return within(v, 0, ALL_COURSES);
            default:
                return false;
        }
    }

    private static boolean isSection(int course, int sort, int which) {
        return isCourse(course) && within(sort, 0, SORTS - 1) && within(which, 0, 1);
    }

    private static boolean isCourse(int course) {
        return within(course, 0, COURSES - 1);
    }

    private static boolean isKind(int kind) {
        return within(kind, 0, KINDS - 1);
    }

    private static boolean isHours(int hours) {
        return within(hours, 0, ALL_HOURS);
    }

    private static boolean within(long v, long least, long greatest) {
        return v >= least && v <= greatest;
    }

    /** What the kinds are called, which is under which, and what a week costs each. */
    private static final class Kinds {
        private static final int PUPIL = 0;
        private static final int EARLY = 1;
        private static final int LATE = 2;
        private static final int ATHLETE = 3;
        private static final int NIGHT = 4;
        private static final int DAYS = 5;
        private static final int FIRST_OF_DAY = 0x11111;
        private static final int LAST_OF_DAY = 0x88888;
        private static final int DAY_TWO = 0xF00;

        static String word(int kind) {
            switch (kind) {
                case PUPIL:
                    return "pupil";
                case EARLY:
                    return "early";
                case LATE:
                    return "late";
                case ATHLETE:
                    return "athlete";
                case NIGHT:
                    return "night";
                default:
                    return "free";
            }
        }

        /** The kind right above one; -1 above a pupil. */
        private static int above(int kind) {
            switch (kind) {
                case PUPIL:
                    return -1;
                case ATHLETE:
                    return EARLY;
                case NIGHT:
                    return LATE;
                default:
                    return PUPIL;
            }
        }

        static boolean isUnder(int kind, int top) {
            int k = kind;
            for (int steps = 0; steps < KINDS && k >= 0; steps++) {
                if (k == top) {
                    return true;
                }
                k = above(k);
            }
            return false;
        }

        static int price(int kind, int busy) {
            int early = days(busy) + Integer.bitCount(busy & LAST_OF_DAY);
            int late = days(busy) + Integer.bitCount(busy & FIRST_OF_DAY);
            switch (kind) {
                case PUPIL:
                    return days(busy);
                case EARLY:
                    return early;
                case LATE:
                    return late;
                case ATHLETE:
                    return early + 2 * Integer.bitCount(busy & DAY_TWO);
                case NIGHT:
                    return 20 - late;
                default:
                    return 0;
            }
        }

        private static int days(int busy) {
            int n = 0;
            for (int day = 0; day < DAYS; day++) {
                if ((busy >> 4 * day & 15) != 0) {
                    n++;
                }
            }
            return n;
        }
    }

    /**
     * The sections and the pupils. All of it stands in one row, so that a state is kept and brought back by one copy;
     * the hours of the lawful triples stand there too, as nearly everything asks for them.
     * Its methods are asked only for courses, sections and pupils that the acts have tested.
     */
    private static final class Book {
        private static final int OPEN = 0;
        private static final int TIME = 1;
        private static final int CAP = 2;
        private static final int LINK = 3;
        private static final int SECTION_CELLS = 4;
        private static final int SORT_CELLS = 8;
        private static final int COURSE_CELLS = 24;
        private static final int KIND = 0;
        private static final int AWAY = 1;
        private static final int WISHES = 2;
        private static final int SITS = 3;
        private static final int PUPIL_CELLS = 7;
        private static final int FIRST_PUPIL = 96;
        private static final int PUPILS = 138;
        private static final int FIRST_HOURS = 139;
        private static final int CELLS = 171;

        private final int[] cell;

        Book() {
            cell = new int[CELLS];
            for (int i = FIRST_HOURS; i < CELLS; i++) {
                cell[i] = -1;
            }
        }

        void copyTo(int[] row, int from) {
            System.arraycopy(cell, 0, row, from, CELLS);
        }

        void copyFrom(int[] row, int from) {
            System.arraycopy(row, from, cell, 0, CELLS);
        }

        // ---- single cells

        int ofSection(int course, int sort, int which, int what) {
            return cell[COURSE_CELLS * course + SORT_CELLS * sort + SECTION_CELLS * which + what];
        }

        boolean isOpen(int course, int sort, int which) {
            return cell[COURSE_CELLS * course + SORT_CELLS * sort + SECTION_CELLS * which + OPEN] == 1;
        }

        /** All hours of a lawful triple; -1 of another. */
        int hoursOf(int course, int triple) {
            return cell[FIRST_HOURS + TRIPLES * course + triple];
        }

        int pupils() {
            return cell[PUPILS];
        }

        int ofPupil(int pupil, int what) {
            return cell[FIRST_PUPIL + PUPIL_CELLS * pupil + what];
        }

        boolean wishes(int pupil, int course) {
            return (cell[FIRST_PUPIL + PUPIL_CELLS * pupil + WISHES] >> course & 1) == 1;
        }

        int sits(int pupil, int course) {
            return cell[FIRST_PUPIL + PUPIL_CELLS * pupil + SITS + course];
        }

        int sitsNow(int pupil, int course, int triple) {
            int at = FIRST_PUPIL + PUPIL_CELLS * pupil + SITS + course;
            int was = cell[at];
            cell[at] = triple;
            return was;
        }

        /** Which section of a sort a triple has. */
        private static int partOf(int triple, int sort) {
            return triple >> (SORTS - 1 - sort) & 1;
        }

        // ---- what is changed

        /** Whether all that are put can stay so; if not, the caller brings the row back. */
        boolean opens(int course, int sort, int which, int time, int cap, int link) {
            int at = COURSE_CELLS * course + SORT_CELLS * sort + SECTION_CELLS * which;
            cell[at + OPEN] = 1;
            cell[at + TIME] = time;
            cell[at + CAP] = cap;
            cell[at + LINK] = link;
            findLawful(course);
            return allSitWell(course) && noCapIsPassed(course);
        }

        private boolean allSitWell(int course) {
            for (int pupil = 0; pupil < pupils(); pupil++) {
                int triple = sits(pupil, course);
                if (triple >= 0 && (freeSet(pupil, course) >> triple & 1) == 0) {
                    return false;
                }
            }
            return true;
        }

        private boolean noCapIsPassed(int course) {
            for (int sort = 0; sort < SORTS; sort++) {
                for (int which = 0; which < 2; which++) {
                    if (isOpen(course, sort, which)
                            && taken(course, sort, which, -1) > ofSection(course, sort, which, CAP)) {
                        return false;
                    }
                }
            }
            return true;
        }

        int closes(int course, int sort, int which) {
            cell[COURSE_CELLS * course + SORT_CELLS * sort + SECTION_CELLS * which + OPEN] = 0;
            findLawful(course);
            int gone = 0;
            for (int pupil = 0; pupil < pupils(); pupil++) {
                int triple = sits(pupil, course);
                if (triple >= 0 && hoursOf(course, triple) < 0) {
                    sitsNow(pupil, course, -1);
                    gone++;
                }
            }
            return gone;
        }

        int comes(int kind, int away, int wishes) {
            int pupil = pupils();
            int at = FIRST_PUPIL + PUPIL_CELLS * pupil;
            cell[at + KIND] = kind;
            cell[at + AWAY] = away;
            cell[at + WISHES] = wishes;
            for (int course = 0; course < COURSES; course++) {
                cell[at + SITS + course] = -1;
            }
            cell[PUPILS] = pupil + 1;
            return pupil;
        }

        int lastGoes() {
            cell[PUPILS]--;
            return cell[PUPILS];
        }

        int becomes(int pupil, int what, int v) {
            int was = ofPupil(pupil, what);
            cell[FIRST_PUPIL + PUPIL_CELLS * pupil + what] = v;
            for (int course = 0; course < COURSES; course++) {
                if (!wishes(pupil, course)) {
                    sitsNow(pupil, course, -1);
                }
            }
            return was;
        }

        // ---- which triples are lawful

        private void findLawful(int course) {
            for (int triple = 0; triple < TRIPLES; triple++) {
                cell[FIRST_HOURS + TRIPLES * course + triple] = lawfulHours(course, triple);
            }
        }

        private int lawfulHours(int course, int triple) {
            int lecture = partOf(triple, 0);
            if (!isOpen(course, 0, lecture)) {
                return -1;
            }
            int hours = ofSection(course, 0, lecture, TIME);
            for (int sort = 1; sort < SORTS; sort++) {
                int which = partOf(triple, sort);
                int more = 0;
                if (counts(course, sort)) {
                    if (!goesWith(course, sort, which, lecture)) {
                        return -1;
                    }
                    more = ofSection(course, sort, which, TIME);
                } else if (which != 0) {
                    return -1;
                }
                if ((hours & more) != 0) {
                    return -1;
                }
                hours |= more;
            }
            return hours;
        }

        /** The lectures of a course always count: without one that is open no triple is lawful. */
        boolean counts(int course, int sort) {
            int at = COURSE_CELLS * course + SORT_CELLS * sort + OPEN;
            return sort == 0 || cell[at] == 1 || cell[at + SECTION_CELLS] == 1;
        }

        private boolean goesWith(int course, int sort, int which, int lecture) {
            int link = ofSection(course, sort, which, LINK);
            return isOpen(course, sort, which) && (link == -1 || link == lecture);
        }

        int lawfulSet(int course) {
            int set = 0;
            for (int triple = 0; triple < TRIPLES; triple++) {
                if (hoursOf(course, triple) >= 0) {
                    set |= 1 << triple;
                }
            }
            return set;
        }

        // ---- what is told of sections

        boolean isPaired(int course, int sort) {
            return isOpen(course, sort, 0) && isOpen(course, sort, 1);
        }

        /** How many but one pupil (-1: none is left out) sit in a section of a sort that counts. */
        int taken(int course, int sort, int which, int without) {
            int n = 0;
            for (int pupil = 0; pupil < cell[PUPILS]; pupil++) {
                int triple = cell[FIRST_PUPIL + PUPIL_CELLS * pupil + SITS + course];
                if (pupil != without && triple >= 0 && (triple >> (SORTS - 1 - sort) & 1) == which) {
                    n++;
                }
            }
            return n;
        }

        int unevenness(int course) {
            int sum = 0;
            for (int sort = 0; sort < SORTS; sort++) {
                if (isPaired(course, sort)) {
                    sum += Math.abs(taken(course, sort, 0, -1) - taken(course, sort, 1, -1));
                }
            }
            return sum;
        }

        int openSections() {
            int n = 0;
            for (int course = 0; course < COURSES; course++) {
                for (int part = 0; part < 2 * SORTS; part++) {
                    n += ofSection(course, part >> 1, part & 1, OPEN);
                }
            }
            return n;
        }

        // ---- what is told of pupils

        /** All hours of what a pupil sits in, one course (-1: none) left out. */
        int busy(int pupil, int without) {
            int hours = 0;
            for (int course = 0; course < COURSES; course++) {
                int triple = sits(pupil, course);
                if (course != without && triple >= 0) {
                    hours |= hoursOf(course, triple);
                }
            }
            return hours;
        }

        int price(int pupil) {
            return Kinds.price(ofPupil(pupil, KIND), busy(pupil, -1));
        }

        int priceOfAll() {
            int sum = 0;
            for (int pupil = 0; pupil < pupils(); pupil++) {
                sum += price(pupil);
            }
            return sum;
        }

        int sitsIn(int pupil) {
            int n = 0;
            for (int course = 0; course < COURSES; course++) {
                if (sits(pupil, course) >= 0) {
                    n++;
                }
            }
            return n;
        }

        int seats() {
            int n = 0;
            for (int pupil = 0; pupil < pupils(); pupil++) {
                n += sitsIn(pupil);
            }
            return n;
        }

        int openWishes() {
            int n = 0;
            for (int pupil = 0; pupil < pupils(); pupil++) {
                n += Integer.bitCount(ofPupil(pupil, WISHES)) - sitsIn(pupil);
            }
            return n;
        }

        /** Sign 0 to 4 of what a line tells of the n-th course (from 0) in which a pupil sits. */
        int sign(int pupil, int n, int place) {
            int course = courseOf(pupil, n);
            if (place == 0) {
                return ' ';
            }
            if (place == 1) {
                return 'a' + course;
            }
            int sort = place - 2;
            return counts(course, sort) ? '0' + partOf(sits(pupil, course), sort) : '-';
        }

        private int courseOf(int pupil, int n) {
            int ahead = 0;
            for (int course = 0; course < COURSES; course++) {
                if (sits(pupil, course) >= 0) {
                    if (ahead == n) {
                        return course;
                    }
                    ahead++;
                }
            }
            return 0;
        }

        // ---- what fits

        /** Lawful triples that have no hour in common with those of the pupil, seats apart. */
        int freeSet(int pupil, int course) {
            int barred = ofPupil(pupil, AWAY) | busy(pupil, course);
            int set = 0;
            for (int triple = 0; triple < TRIPLES; triple++) {
                int hours = hoursOf(course, triple);
                if (hours >= 0 && (hours & barred) == 0) {
                    set |= 1 << triple;
                }
            }
            return set;
        }

        /** Triples with a section in which the others leave no seat. */
        int crowded(int pupil, int course) {
            int set = 0;
            for (int triple = 0; triple < TRIPLES; triple++) {
                if (leastLeft(course, triple, pupil) <= 0) {
                    set |= 1 << triple;
                }
            }
            return set;
        }

        private int leastLeft(int course, int triple, int without) {
            int least = MOST_CAP;
            for (int sort = 0; sort < SORTS; sort++) {
                if (counts(course, sort)) {
                    int which = partOf(triple, sort);
                    int left = ofSection(course, sort, which, CAP) - taken(course, sort, which, without);
                    least = Math.min(least, left);
                }
            }
            return least;
        }

        private int greatestTaken(int course, int triple, int without) {
            int greatest = 0;
            for (int sort = 0; sort < SORTS; sort++) {
                if (counts(course, sort)) {
                    greatest = Math.max(greatest, taken(course, sort, partOf(triple, sort), without));
                }
            }
            return greatest;
        }

        /** The triple that fits and is best by a rule; -1 if none fits. */
        int choose(int pupil, int course, int rule) {
            int fitting = freeSet(pupil, course) & ~crowded(pupil, course);
            int best = -1;
            int leastBad = 0;
            for (int triple = 0; triple < TRIPLES; triple++) {
                if ((fitting >> triple & 1) != 0) {
                    int bad = badness(pupil, course, triple, rule);
                    if (best < 0 || bad < leastBad) {
                        best = triple;
                        leastBad = bad;
                    }
                }
            }
            return best;
        }

        private int badness(int pupil, int course, int triple, int rule) {
            switch (rule) {
                case 1:
                    return Kinds.price(ofPupil(pupil, KIND), busy(pupil, course) | hoursOf(course, triple));
                case 2:
                    return greatestTaken(course, triple, pupil);
                case 3:
                    return -leastLeft(course, triple, pupil);
                case 4:
                    return Integer.bitCount(hoursOf(course, triple));
                default:
                    return 0;
            }
        }
    }

    /** The states ahead of the latest changes, in a ring; one slot more than can be undone, for a change that fails. */
    private static final class Past {
        private static final int DEEPEST = 30;
        private static final int SLOTS = 31;

        private final int[] row = new int[SLOTS * Book.CELLS];
        private int slot;
        private int kept;

        void mark(Book book) {
            book.copyTo(row, slot * Book.CELLS);
        }

        void bringBack(Book book) {
            book.copyFrom(row, slot * Book.CELLS);
        }

        void keep() {
            slot = (slot + 1) % SLOTS;
            kept = Math.min(DEEPEST, kept + 1);
        }

        int kept() {
            return kept;
        }

        int goBack(Book book) {
            slot = (slot + SLOTS - 1) % SLOTS;
            kept--;
            bringBack(book);
            return kept;
        }
    }

    /**
     * The seatings of one course. After the first k pupils only four numbers matter for the rest: how many sit, and
     * how many of them in lecture 1, lab 1, drill 1. The table has the worth of the best rest (or how many rests there
     * are) for each k and each four, so that at most 1596 places are looked at in place of 9 to the 6th seatings.
     */
    private static final class Seating {
        private static final int NO_WAY = -1000000000;
        private static final int DIGITS = 9;
        private static final int PLACES = 1596;
        /** Where the places of k pupils begin, and within these those of s that sit: sums of cubes. */
        private static final int[] LAYER = {0, 1, 10, 46, 146, 371, 812};
        private static final int[] BLOCK = {0, 1, 9, 36, 100, 225, 441};

        private final int[] table = new int[PLACES];
        private final int[] may = new int[MOST_PUPILS];
        private final int[] had = new int[MOST_PUPILS];
        private final int[] got = new int[MOST_PUPILS];
        private final int[] cap = new int[2 * SORTS];
        private final boolean[] paired = new boolean[SORTS];
        private int pupils;
        private int parts;
        private boolean counting;
        private int perSeat;
        private int perGap;
        private int perMove;

        void prepare(Book book, int course) {
            pupils = Math.min(MOST_PUPILS, book.pupils());
            parts = 0;
            for (int pupil = 0; pupil < pupils; pupil++) {
                int free = book.wishes(pupil, course) ? book.freeSet(pupil, course) : 0;
                may[pupil] = 1 | free << 1;
                had[pupil] = book.sits(pupil, course) + 1;
                got[pupil] = had[pupil];
                for (int triple = 0; triple < TRIPLES; triple++) {
                    if ((free >> triple & 1) != 0) {
                        parts |= triple;
                    }
                }
            }
            for (int sort = 0; sort < SORTS; sort++) {
                paired[sort] = book.isPaired(course, sort);
                boolean counts = book.counts(course, sort);
                cap[2 * sort] = counts ? book.ofSection(course, sort, 0, Book.CAP) : MOST_CAP;
                cap[2 * sort + 1] = counts ? book.ofSection(course, sort, 1, Book.CAP) : MOST_CAP;
            }
        }

        /** From now on the pupil and all that sit already must sit. */
        void mustSit(int pupil) {
            for (int p = 0; p < pupils; p++) {
                if (p == pupil || had[p] != 0) {
                    may[p] &= ~1;
                }
            }
        }

        int howMany() {
            counting = true;
            for (int k = pupils; k >= 0; k--) {
                fillLayer(k);
            }
            return table[0];
        }

        /** Whether there is a seating; if so, the best, and of like ones the first, is got. */
        boolean finds(int seatWorth, int gapCost, int moveCost) {
            counting = false;
            perSeat = seatWorth;
            perGap = gapCost;
            perMove = moveCost;
            for (int k = pupils; k >= 0; k--) {
                fillLayer(k);
            }
            if (table[0] == NO_WAY) {
                return false;
            }
            walk();
            return true;
        }

        int seated() {
            int n = 0;
            for (int p = 0; p < pupils; p++) {
                if (got[p] != 0) {
                    n++;
                }
            }
            return n;
        }

        int moved() {
            int n = 0;
            for (int p = 0; p < pupils; p++) {
                if (had[p] != 0 && got[p] != had[p]) {
                    n++;
                }
            }
            return n;
        }

        void becomesSo(Book book, int course) {
            for (int p = 0; p < pupils; p++) {
                book.sitsNow(p, course, got[p] - 1);
            }
        }

        private static int place(int k, int s, int l, int b, int d) {
            return LAYER[k] + BLOCK[s] + (l * (s + 1) + b) * (s + 1) + d;
        }

        /** A part that no pupil may take is never counted, so its places need not be filled. */
        private void fillLayer(int k) {
            for (int s = 0; s <= k; s++) {
                int lectures = (parts & 4) != 0 ? s : 0;
                int labs = (parts & 2) != 0 ? s : 0;
                int drills = (parts & 1) != 0 ? s : 0;
                for (int l = 0; l <= lectures; l++) {
                    for (int b = 0; b <= labs; b++) {
                        for (int d = 0; d <= drills; d++) {
                            table[place(k, s, l, b, d)] = k == pupils ? atEnd(s, l, b, d) : atBest(k, s, l, b, d);
                        }
                    }
                }
            }
        }

        private int atEnd(int s, int l, int b, int d) {
            if (counting) {
                return 1;
            }
            return -perGap * (gap(0, s, l) + gap(1, s, b) + gap(2, s, d));
        }

        private int gap(int sort, int s, int inSecond) {
            return paired[sort] ? Math.abs(s - 2 * inSecond) : 0;
        }

        private int atBest(int k, int s, int l, int b, int d) {
            int sum = 0;
            int best = NO_WAY;
            for (int digit = 0; digit < DIGITS; digit++) {
                if ((may[k] >> digit & 1) != 0) {
                    int worth = through(k, digit, s, l, b, d);
                    if (worth != NO_WAY) {
                        sum += worth;
                        best = Math.max(best, worth);
                    }
                }
            }
            return counting ? sum : best;
        }

        /** The worth of pupil k having a digit and the best rest behind it. */
        private int through(int k, int digit, int s, int l, int b, int d) {
            if (digit == 0) {
                return joined(k, digit, table[place(k + 1, s, l, b, d)]);
            }
            int triple = digit - 1;
            int l2 = l + (triple >> 2 & 1);
            int b2 = b + (triple >> 1 & 1);
            int d2 = d + (triple & 1);
            if (!held(0, s + 1, l2) || !held(1, s + 1, b2) || !held(2, s + 1, d2)) {
                return NO_WAY;
            }
            return joined(k, digit, table[place(k + 1, s + 1, l2, b2, d2)]);
        }

        private boolean held(int sort, int s, int inSecond) {
            return inSecond <= cap[2 * sort + 1] && s - inSecond <= cap[2 * sort];
        }

        private int joined(int k, int digit, int rest) {
            if (counting || rest == NO_WAY) {
                return rest;
            }
            int worth = digit != 0 ? perSeat : 0;
            return rest + (had[k] != 0 && had[k] != digit ? worth - perMove : worth);
        }

        private void walk() {
            int s = 0;
            int l = 0;
            int b = 0;
            int d = 0;
            for (int k = 0; k < pupils; k++) {
                int digit = firstBest(k, s, l, b, d);
                got[k] = digit;
                if (digit != 0) {
                    s++;
                    l += digit - 1 >> 2 & 1;
                    b += digit - 1 >> 1 & 1;
                    d += digit - 1 & 1;
                }
            }
        }

        private int firstBest(int k, int s, int l, int b, int d) {
            int want = table[place(k, s, l, b, d)];
            for (int digit = 0; digit < DIGITS; digit++) {
                if ((may[k] >> digit & 1) != 0 && through(k, digit, s, l, b, d) == want) {
                    return digit;
                }
            }
            return 0;
        }
    }

    /**
     * The tape, and the items that are read from it one by one: the latest stands in kind to link.
     * At the end of the tape a word is empty and stands behind the last byte, so that a fault is told alike there.
     */
    private static final class Tape {
        private static final int LONGEST = 120;

        private final byte[] row = new byte[LONGEST];
        private int length;
        private int start;
        private int end;
        private int last;
        private int set;
        private int kind;
        private int wishes;
        private int sort;
        private int course;
        private int which;
        private int hours;
        private int cap;
        private int link;

        int length() {
            return length;
        }

        boolean hasRoom(int n) {
            return length + n <= LONGEST;
        }

        int gets(int bytes, int n) {
            for (int i = n - 1; i >= 0 && length < LONGEST; i--) {
                row[length] = (byte) (bytes >> 8 * i);
                length++;
            }
            return length;
        }

        int empties() {
            int had = length;
            length = 0;
            return had;
        }

        // ---- words

        void rewind() {
            end = 0;
            nextWord();
        }

        /** Where the word begins that is looked at. */
        int place() {
            return start;
        }

        /** Where the last word of the latest section's item begins. */
        int lastPlace() {
            return last;
        }

        boolean atEnd() {
            return start == length;
        }

        private void nextWord() {
            start = end;
            while (start < length && row[start] == ' ') {
                start++;
            }
            end = start;
            while (end < length && row[end] != ' ') {
                end++;
            }
        }

        private boolean says(String word) {
            if (end - start != word.length()) {
                return false;
            }
            for (int i = 0; i < word.length(); i++) {
                if (row[start + i] != word.charAt(i)) {
                    return false;
                }
            }
            return true;
        }

        /** How far the word, if it is one sign, is above the least; -1 if it is beyond the greatest, or no such word. */
        private int oneSign(char least, int greatest) {
            if (end - start != 1) {
                return -1;
            }
            int v = row[start] - least;
            return v >= 0 && v <= greatest ? v : -1;
        }

        private int hour() {
            if (end - start == 2 && row[start] == '1' && row[start + 1] >= '0' && row[start + 1] <= '9') {
                return 10 + row[start + 1] - '0';
            }
            return oneSign('0', 9);
        }

        private int letter() {
            return oneSign('a', COURSES - 1);
        }

        // ---- items: each is false if the word that is looked at can't stand there

        boolean readSemicolon() {
            if (!says(";")) {
                return false;
            }
            nextWord();
            return true;
        }

        boolean readItem(boolean noMorePupils) {
            kind = -1;
            for (int k = 0; k < KINDS; k++) {
                if (says(Kinds.word(k))) {
                    kind = k;
                }
            }
            if (kind >= 0) {
                return !noMorePupils && readPupil();
            }
            sort = says("lecture") ? 0 : says("lab") ? 1 : says("drill") ? 2 : -1;
            return sort >= 0 && readSection() && readLink();
        }

        private boolean readPupil() {
            hours = 0;
            wishes = 0;
            nextWord();
            if (says("away")) {
                nextWord();
                if (!readSet(true)) {
                    return false;
                }
                hours = set;
            }
            if (says("wish")) {
                nextWord();
                if (!readSet(false)) {
                    return false;
                }
                wishes = set;
            }
            return true;
        }

        private boolean readSection() {
            nextWord();
            course = letter();
            if (course < 0) {
                return false;
            }
            nextWord();
            which = oneSign('0', 1);
            if (which < 0) {
                return false;
            }
            nextWord();
            if (!readSet(true) || !says("cap")) {
                return false;
            }
            hours = set;
            nextWord();
            cap = oneSign('0', MOST_CAP);
            return cap >= 0;
        }

        /** The word that is looked at is still that of the cap. */
        private boolean readLink() {
            link = -1;
            last = start;
            nextWord();
            if (says("with")) {
                nextWord();
                link = oneSign('0', 1);
                if (link < 0) {
                    return false;
                }
                last = start;
                nextWord();
            }
            return true;
        }

        /** One or more hours (or letters of courses) come into the set; false if the first word is none. */
        private boolean readSet(boolean ofHours) {
            set = 0;
            int v = ofHours ? hour() : letter();
            for (int words = 0; words < LONGEST && v >= 0; words++) {
                set |= 1 << v;
                nextWord();
                v = ofHours ? hour() : letter();
            }
            return set != 0;
        }
    }

    /** Four rows of numbers, each in its own part of one row of longs, cut as their sorts are. */
    private static final class Sheets {
        private static final int SHEETS = 4;
        private static final int LONGEST = 40;
        private static final int BYTES = 0;
        private static final int INTS = 1;

        private final long[] row = new long[SHEETS * LONGEST];
        private final int[] sort = {-1, -1, -1, -1};
        private final int[] length = new int[SHEETS];

        boolean isOne(int s) {
            return s >= 0 && s < SHEETS;
        }

        boolean isMissing(int s) {
            return sort[s] < 0;
        }

        boolean has(int s, int i) {
            return i >= 0 && i < length[s];
        }

        boolean hasRow(int s, int i, int n) {
            return i >= 0 && n >= 0 && n <= length[s] && i <= length[s] - n;
        }

        int sortOf(int s) {
            return sort[s];
        }

        int length(int s) {
            return length[s];
        }

        long at(int s, int i) {
            return row[LONGEST * s + i];
        }

        int becomes(int s, int newSort, int n) {
            sort[s] = newSort;
            length[s] = n;
            for (int i = 0; i < LONGEST; i++) {
                row[LONGEST * s + i] = 0;
            }
            return n;
        }

        void set(int s, int i, long v) {
            long cut = sort[s] == BYTES ? (byte) v : sort[s] == INTS ? (int) v : v;
            row[LONGEST * s + i] = cut;
        }

        void carry(int s, int i, int t, int j, int n) {
            System.arraycopy(row, LONGEST * s + i, row, LONGEST * t + j, n);
        }
    }
}
