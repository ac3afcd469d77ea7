import java.util.ArrayList;
import java.util.Arrays;
import java.util.List;
import java.util.Map;
import java.util.WeakHashMap;

/** What the tests of edges share: answers held against those that are due, and all that can be seen of an object. */
final class Checks {
    static final int LOW = -1000001;
    static final long LONG_LOW = -1000000000000000001L;
    static final int BEYOND = 0;
    static final int FULL = 1;
    static final int KIND = 2;
    static final int NONE = 3;
    static final int STATE = 4;
    static final int MISSING = 5;
    static final int SIZE = 6;
    private static final int FINDINGS = 8;
    private static final int MOST_LOOKS = 512;

    private static int promise;
    private static int asked;
    private static int wrong;
    private static final Map<Run, List<long[]>> SEEN = new WeakHashMap<>();

    private Checks() {
    }

    static void promise(int number) {
        promise = number;
    }

    static int asked() {
        return asked;
    }

    static int wrong() {
        return wrong;
    }

    static int bits(int... places) {
        int set = 0;
        for (int place : places) {
            set |= 1 << place;
        }
        return set;
    }

    static void same(String what, long got, long want) {
        asked++;
        if (got != want) {
            wrong++;
            System.out.println("promise " + promise + ": " + what + " answered " + got + ", due is " + want);
        }
    }

    /** The answer of a call on a new object behind a run. */
    static void due(Run start, String call, long want) {
        same(start + ": " + call, start.ask(call), want);
    }

    /** The answers of calls on one object, one behind the other. */
    static void row(Run start, Object... callsAndAnswers) {
        SectionOffice x = start.made();
        for (int i = 0; i < callsAndAnswers.length; i += 2) {
            String call = (String) callsAndAnswers[i];
            same(start + " .. " + call, Run.answer(x, call), ((Number) callsAndAnswers[i + 1]).longValue());
        }
    }

    static long finding(String call, int k) {
        boolean isLong = call.startsWith("ways(") || call.startsWith("item(");
        return (isLong ? LONG_LOW : LOW) - k;
    }

    /** The call answers the finding, which is counted once, and nothing else is changed that can be seen or undone. */
    static void refused(Run start, String call, int k) {
        due(start, call, finding(call, k));
        SectionOffice before = start.made();
        SectionOffice after = start.then(call).made();
        for (int j = -1; j < FINDINGS; j++) {
            int more = j == -1 || j == k ? 1 : 0;
            same(start + ": " + call + ": status(" + j + ")", after.status(j), before.status(j) + more);
        }
        unchanged(start, call);
    }

    /** The tape is no text: all is as it was, but the tape is empty; it is neither a change nor a finding. */
    static void fault(Run start, String words, int place) {
        due(start, "tell '" + words + "'", -1 - place);
        Run empty = start.then("wipe()");
        Run told = start.then("tell '" + words + "'");
        for (int j = -1; j < FINDINGS; j++) {
            same(start + ": '" + words + "': status(" + j + ")", told.made().status(j), empty.made().status(j));
        }
        alike(start + ": tell '" + words + "'", empty, told);
    }

    /** Nothing that the call did can be seen but by status(). */
    static void unchanged(Run start, String call) {
        alike(start + ": " + call, start, start.then(call));
    }

    /** Two runs have led to the same, now and however many changes are undone. */
    static void alike(String what, Run one, Run other) {
        List<long[]> due = SEEN.computeIfAbsent(one, Checks::seen);
        List<long[]> got = seen(other);
        asked++;
        boolean fine = due.size() == got.size();
        for (int depth = 0; fine && depth < due.size(); depth++) {
            fine = Arrays.equals(due.get(depth), got.get(depth));
        }
        if (!fine) {
            wrong++;
            System.out.println("promise " + promise + ": " + what + " has changed what it must not");
        }
    }

    /** What is seen now and what other calls answer then, and sections and pupils as they are when one, two, .. changes are undone. */
    private static List<long[]> seen(Run run) {
        List<long[]> all = new ArrayList<>();
        all.add(sheetsAndTape(run.made()));
        all.add(whatFollows(run.made()));
        int kept = run.made().count(4);
        for (int undone = 0; undone <= kept; undone++) {
            SectionOffice x = run.made();
            for (int i = 0; i < undone; i++) {
                x.undo();
            }
            all.add(sectionsAndPupils(x));
        }
        return all;
    }

    private static long[] sheetsAndTape(SectionOffice x) {
        long[] seen = new long[MOST_LOOKS];
        int n = 0;
        for (int what = 0; what < 8; what++) {
            seen[n++] = x.count(what);
        }
        for (int i = 0; i < 160; i++) {
            seen[n++] = x.item(i / 40, i % 40);
        }
        for (int s = 0; s < 4; s++) {
            seen[n++] = x.write(s, 0, -3L << 40 | 0x1F0000080L);
            seen[n++] = x.item(s, 0);
        }
        seen[n++] = x.text();
        for (int i = 0; i < 18; i++) {
            seen[n++] = x.its(i / 3, i % 3);
        }
        return seen;
    }

    /** Calls that work something out, lest one ahead of them has left anything behind that only they would feel. */
    private static long[] whatFollows(SectionOffice x) {
        long[] seen = new long[MOST_LOOKS];
        int n = 0;
        for (int course = 0; course < 4; course++) {
            seen[n++] = x.most(course);
            seen[n++] = x.ways(course);
        }
        for (int i = 0; i < 24; i++) {
            seen[n++] = x.fits(i / 4, i % 4);
            seen[n++] = x.why(i / 4, i % 4, 0);
            seen[n++] = x.why(i / 4, i % 4, 1);
            seen[n++] = x.chain(i / 4, i % 4);
            seen[n++] = x.would(i / 4, i % 4, i % 5);
        }
        for (int course = 0; course < 4; course++) {
            seen[n++] = course % 2 == 0 ? x.evens(course) : x.seat(course);
        }
        x.wipe();
        seen[n++] = Run.answer(x, "tell 'lab d 1 7 cap 3 ; drill d 0 8 cap 2 with 1 ; lecture d 1 9 cap 1'");
        seen[n++] = x.triples(3);
        for (int pupil = 0; pupil < 6; pupil++) {
            for (int what = 10; what < 14; what++) {
                seen[n++] = x.its(pupil, what);
            }
        }
        return seen;
    }

    private static long[] sectionsAndPupils(SectionOffice x) {
        long[] seen = new long[MOST_LOOKS];
        int n = 0;
        for (int what : new int[] {0, 1, 2, 3, 4, 7}) {
            seen[n++] = x.count(what);
        }
        for (int i = 0; i < 144; i++) {
            seen[n++] = x.of(i / 36, i / 12 % 3, i / 6 % 2, i % 6);
        }
        for (int i = 0; i < 32; i++) {
            seen[n++] = x.time(i / 8, i % 8);
        }
        for (int course = 0; course < 4; course++) {
            seen[n++] = x.triples(course);
            seen[n++] = x.uneven(course);
        }
        for (int i = 0; i < 6 * 14; i++) {
            seen[n++] = x.its(i / 14, i % 14);
        }
        return seen;
    }

    /**
     * Each argument's least and greatest value is not beyond, those past them are, and all others then are fine ones.
     * Ranges are told as least..greatest, or as * if any value will do.
     */
    static void edges(Run start, String name, String fine, String ranges) {
        String[] values = fine.split(" +");
        String[] pairs = ranges.split(" +");
        for (int i = 0; i < values.length; i++) {
            if (!pairs[i].equals("*")) {
                String[] pair = pairs[i].split("\\.\\.");
                edge(start, name, values, i, Long.parseLong(pair[0]), Long.parseLong(pair[1]));
            }
        }
    }

    private static void edge(Run start, String name, String[] values, int slot, long least, long greatest) {
        for (long v : new long[] {least, greatest}) {
            String call = with(name, values, slot, v);
            same(start + ": " + call + " is beyond", start.ask(call) == finding(call, BEYOND) ? 1 : 0, 0);
        }
        for (long v : new long[] {least - 1, greatest + 1, Integer.MIN_VALUE, Integer.MAX_VALUE}) {
            refused(start, with(name, values, slot, v), BEYOND);
        }
    }

    private static String with(String name, String[] values, int slot, long v) {
        String[] now = values.clone();
        now[slot] = String.valueOf(v);
        return name + "(" + String.join(", ", now) + ")";
    }
}
