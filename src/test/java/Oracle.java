import java.util.ArrayDeque;
import java.util.ArrayList;
import java.util.Arrays;
import java.util.Deque;
import java.util.List;
import java.util.TreeMap;

/**
 * The document told a second time, in the slowest and plainest way: every seating is written out and compared, every
 * state is kept whole, lines are joined as texts. FuzzTest holds the class against it.
 */
public final class Oracle {
    private static final String[] KIND_WORDS = {"pupil", "early", "late", "athlete", "night", "free"};
    private static final int[] KIND_ABOVE = {-1, 0, 0, 1, 2, 0};
    private static final List<String> FINDINGS =
            List.of("BEYOND", "FULL", "KIND", "NONE", "STATE", "MISSING", "SIZE", "OVER");

    private static final class Refusal extends RuntimeException {
        private static final long serialVersionUID = 1L;
        final int k;
        Refusal(String name) {
            super(name, null, false, false);
            k = FINDINGS.indexOf(name);
        }
    }

    private static final class Section {
        int time;
        int cap;
        int link;
        Section(int time, int cap, int link) {
            this.time = time;
            this.cap = cap;
            this.link = link;
        }
    }

    private static final class Pupil {
        int kind;
        int away;
        int wishes;
        final TreeMap<Integer, Integer> put = new TreeMap<>();
    }

    private static final class World {
        final Section[][][] sections = new Section[4][3][2];
        final List<Pupil> pupils = new ArrayList<>();

        World twin() {
            World w = new World();
            for (int c = 0; c < 4; c++) {
                for (int s = 0; s < 3; s++) {
                    w.sections[c][s] = sections[c][s].clone();
                }
            }
            for (Pupil p : pupils) {
                Pupil q = new Pupil();
                q.kind = p.kind;
                q.away = p.away;
                q.wishes = p.wishes;
                q.put.putAll(p.put);
                w.pupils.add(q);
            }
            return w;
        }
    }

    private World now = new World();
    private final Deque<World> past = new ArrayDeque<>();
    private final int[] told = new int[8];
    private int z = 1;
    private List<Integer> tape = new ArrayList<>();
    private final long[][] sheets = new long[4][];
    private final int[] sorts = new int[4];

    private interface Act {
        long run();
    }

    private int act(Act a) {
        try {
            return (int) a.run();
        } catch (Refusal r) {
            told[r.k]++;
            return -1000001 - r.k;
        }
    }

    private long longAct(Act a) {
        try {
            return a.run();
        } catch (Refusal r) {
            told[r.k]++;
            return -1000000000000000001L - r.k;
        }
    }

    private int changing(Act a) {
        World before = now.twin();
        int answer = act(a);
        if (answer > -1000001) {
            past.push(before);
            if (past.size() > 30) {
                past.removeLast();
            }
        } else {
            now = before;
        }
        return answer;
    }

    private static void ask(boolean fine, String name) {
        if (!fine) {
            throw new Refusal(name);
        }
    }

    private static void range(long v, long a, long b) {
        ask(a <= v && v <= b, "BEYOND");
    }

    private Pupil one(int p) {
        range(p, 0, now.pupils.size() - 1);
        return now.pupils.get(p);
    }

    // ---- what the terms say

    private Section[] partsOf(int course, int triple) {
        int[] which = {triple / 4, triple / 2 % 2, triple % 2};
        Section[] parts = new Section[3];
        for (int sort = 0; sort < 3; sort++) {
            Section[] two = now.sections[course][sort];
            parts[sort] = two[which[sort]];
            if (parts[sort] == null) {
                boolean neither = two[0] == null && two[1] == null;
                if (sort == 0 || !neither || which[sort] != 0) {
                    return null;
                }
            } else if (sort > 0 && parts[sort].link != -1 && parts[sort].link != which[0]) {
                return null;
            }
        }
        for (int hour = 0; hour < 20; hour++) {
            int times = 0;
            for (Section s : parts) {
                if (s != null && (s.time >> hour & 1) == 1) {
                    times++;
                }
            }
            if (times > 1) {
                return null;
            }
        }
        return parts;
    }

    private int timeOf(int course, int triple) {
        int t = 0;
        for (Section s : partsOf(course, triple)) {
            t |= s == null ? 0 : s.time;
        }
        return t;
    }

    private int busy(Pupil p, int but) {
        int t = 0;
        for (int course : p.put.keySet()) {
            if (course != but) {
                t |= timeOf(course, p.put.get(course));
            }
        }
        return t;
    }

    private int taken(Section s, int course, Pupil but) {
        int n = 0;
        for (Pupil p : now.pupils) {
            if (p != but && p.put.containsKey(course)
                    && Arrays.asList(partsOf(course, p.put.get(course))).contains(s)) {
                n++;
            }
        }
        return n;
    }

    private static int cost(int kind, int busy) {
        int days = 0;
        int first = 0;
        int last = 0;
        int second = 0;
        for (int day = 0; day < 5; day++) {
            boolean any = false;
            for (int h = 4 * day; h < 4 * day + 4; h++) {
                if ((busy & 1 << h) != 0) {
                    any = true;
                    first += h % 4 == 0 ? 1 : 0;
                    last += h % 4 == 3 ? 1 : 0;
                    second += day == 2 ? 1 : 0;
                }
            }
            days += any ? 1 : 0;
        }
        return new int[] {days, days + last, days + first, days + last + 2 * second, 20 - days - first, 0}[kind];
    }

    private boolean hoursFit(Pupil p, int course, int triple) {
        return partsOf(course, triple) != null && (timeOf(course, triple) & (p.away | busy(p, course))) == 0;
    }

    private boolean seatsFit(Pupil p, int course, int triple) {
        for (Section s : partsOf(course, triple)) {
            if (s != null && s.cap - taken(s, course, p) < 1) {
                return false;
            }
        }
        return true;
    }

    private boolean wishes(Pupil p, int course) {
        return (p.wishes & 1 << course) != 0;
    }

    private int pickOf(int pupil, int course, int rule) {
        Pupil p = one(pupil);
        range(course, 0, 3);
        range(rule, 0, 4);
        ask(wishes(p, course), "NONE");
        int best = -1;
        int bestScore = 0;
        for (int t = 7; t >= 0; t--) {
            if (!hoursFit(p, course, t) || !seatsFit(p, course, t)) {
                continue;
            }
            int mostTaken = 0;
            int leastLeft = 99;
            for (Section s : partsOf(course, t)) {
                if (s != null) {
                    mostTaken = Math.max(mostTaken, taken(s, course, p));
                    leastLeft = Math.min(leastLeft, s.cap - taken(s, course, p));
                }
            }
            int time = timeOf(course, t);
            int score = rule == 0 ? 0 : rule == 1 ? cost(p.kind, time | busy(p, course))
                    : rule == 2 ? mostTaken : rule == 3 ? -leastLeft : Integer.bitCount(time);
            if (best < 0 || score <= bestScore) {
                best = t;
                bestScore = score;
            }
        }
        ask(best >= 0, "STATE");
        return best;
    }

    private int order(long pupil, long course, long rule) {
        if (Math.abs(pupil) > 1000 || Math.abs(course) > 1000 || Math.abs(rule) > 1000) {
            return 0;
        }
        try {
            int t = pickOf((int) pupil, (int) course, (int) rule);
            now.pupils.get((int) pupil).put.put((int) course, t);
            return 1;
        } catch (Refusal r) {
            return 0;
        }
    }

    private List<int[]> seatings(int course) {
        List<int[]> all = new ArrayList<>();
        grow(course, new int[now.pupils.size()], 0, all);
        return all;
    }

    /** In order of their digits, so the first of several is the one found first. */
    private void grow(int course, int[] digits, int at, List<int[]> all) {
        if (at == digits.length) {
            all.add(digits.clone());
            return;
        }
        Pupil p = now.pupils.get(at);
        for (int digit = 0; digit <= 8; digit++) {
            digits[at] = digit;
            if (digit == 0 || wishes(p, course) && hoursFit(p, course, digit - 1) && capsHold(course, digits, at)) {
                grow(course, digits, at + 1, all);
            }
        }
        digits[at] = 0;
    }

    private boolean capsHold(int course, int[] digits, int upTo) {
        for (Section[] two : now.sections[course]) {
            for (Section s : two) {
                if (s != null && load(course, digits, upTo, s) > s.cap) {
                    return false;
                }
            }
        }
        return true;
    }

    private int load(int course, int[] digits, int upTo, Section s) {
        int n = 0;
        for (int p = 0; p <= upTo; p++) {
            if (digits[p] > 0 && Arrays.asList(partsOf(course, digits[p] - 1)).contains(s)) {
                n++;
            }
        }
        return n;
    }

    private static int seatedBy(int[] digits) {
        int n = 0;
        for (int d : digits) {
            n += d > 0 ? 1 : 0;
        }
        return n;
    }

    private int movedBy(int course, int[] digits) {
        int n = 0;
        for (int p = 0; p < digits.length; p++) {
            Integer has = now.pupils.get(p).put.get(course);
            n += has != null && digits[p] != has + 1 ? 1 : 0;
        }
        return n;
    }

    private int unevenBy(int course, int[] digits) {
        int n = 0;
        for (Section[] two : now.sections[course]) {
            if (two[0] != null && two[1] != null) {
                int last = digits.length - 1;
                n += Math.abs(load(course, digits, last, two[0]) - load(course, digits, last, two[1]));
            }
        }
        return n;
    }

    private int[] digitsNow(int course) {
        int[] digits = new int[now.pupils.size()];
        for (int p = 0; p < digits.length; p++) {
            digits[p] = now.pupils.get(p).put.getOrDefault(course, -1) + 1;
        }
        return digits;
    }

    private void become(int course, int[] digits) {
        for (int p = 0; p < digits.length; p++) {
            if (digits[p] == 0) {
                now.pupils.get(p).put.remove(course);
            } else {
                now.pupils.get(p).put.put(course, digits[p] - 1);
            }
        }
    }

    private int[] best(int course, boolean even) {
        int[] best = null;
        int[] bestKey = null;
        for (int[] digits : seatings(course)) {
            int[] key = {-seatedBy(digits), even ? unevenBy(course, digits) : 0, movedBy(course, digits)};
            if (best == null || Arrays.compare(key, bestKey) < 0) {
                best = digits;
                bestKey = key;
            }
        }
        return best;
    }

    private int[] letting(int pupil, int course) {
        Pupil p = one(pupil);
        range(course, 0, 3);
        ask(wishes(p, course), "NONE");
        ask(!p.put.containsKey(course), "STATE");
        int[] had = digitsNow(course);
        int[] best = null;
        for (int[] digits : seatings(course)) {
            boolean fine = digits[pupil] > 0;
            for (int i = 0; i < had.length; i++) {
                fine &= had[i] == 0 || digits[i] > 0;
            }
            if (fine && (best == null || movedBy(course, digits) < movedBy(course, best))) {
                best = digits;
            }
        }
        ask(best != null, "NONE");
        return best;
    }

    private void openSection(int course, int sort, int which, int time, int cap, int link) {
        now.sections[course][sort][which] = new Section(time, cap, link);
        for (Pupil p : now.pupils) {
            Integer t = p.put.get(course);
            ask(t == null || partsOf(course, t) != null, "STATE");
        }
        for (Pupil p : now.pupils) {
            Integer t = p.put.get(course);
            ask(t == null || hoursFit(p, course, t), "STATE");
        }
        ask(capsHold(course, digitsNow(course), now.pupils.size() - 1), "STATE");
    }

    // ---- the face

    public int section(int course, int sort, int which, int time, int cap, int link) {
        return changing(() -> {
            range(course, 0, 3);
            range(sort, 0, 2);
            range(which, 0, 1);
            range(time, 0, (1 << 20) - 1);
            range(cap, 0, 9);
            range(link, -1, 1);
            openSection(course, sort, which, time, cap, link);
            return lawful(course);
        });
    }

    private int lawful(int course) {
        int set = 0;
        for (int t = 0; t < 8; t++) {
            set |= partsOf(course, t) != null ? 1 << t : 0;
        }
        return set;
    }

    public int shut(int course, int sort, int which) {
        return changing(() -> {
            range(course, 0, 3);
            range(sort, 0, 2);
            range(which, 0, 1);
            ask(now.sections[course][sort][which] != null, "NONE");
            now.sections[course][sort][which] = null;
            int n = 0;
            for (Pupil p : now.pupils) {
                if (p.put.containsKey(course) && partsOf(course, p.put.get(course)) == null) {
                    p.put.remove(course);
                    n++;
                }
            }
            return n;
        });
    }

    public int of(int course, int sort, int which, int what) {
        return act(() -> {
            range(course, 0, 3);
            range(sort, 0, 2);
            range(which, 0, 1);
            range(what, 0, 5);
            Section s = now.sections[course][sort][which];
            if (what == 0) {
                return s == null ? 0 : 1;
            }
            ask(s != null, "NONE");
            int taken = taken(s, course, null);
            return new int[] {0, s.time, s.cap, s.link, taken, s.cap - taken}[what];
        });
    }

    public int triples(int course) {
        return act(() -> {
            range(course, 0, 3);
            return lawful(course);
        });
    }

    public int time(int course, int triple) {
        return act(() -> {
            range(course, 0, 3);
            range(triple, 0, 7);
            ask(partsOf(course, triple) != null, "NONE");
            return timeOf(course, triple);
        });
    }

    public int uneven(int course) {
        return act(() -> {
            range(course, 0, 3);
            return unevenBy(course, digitsNow(course));
        });
    }

    public int pupil(int kind, int away, int wishes) {
        return changing(() -> {
            range(kind, 0, 5);
            range(away, 0, (1 << 20) - 1);
            range(wishes, 0, 15);
            ask(now.pupils.size() < 6, "FULL");
            return add(kind, away, wishes);
        });
    }

    private int add(int kind, int away, int wishes) {
        Pupil p = new Pupil();
        p.kind = kind;
        p.away = away;
        p.wishes = wishes;
        now.pupils.add(p);
        return now.pupils.size() - 1;
    }

    public int leave() {
        return changing(() -> {
            ask(!now.pupils.isEmpty(), "NONE");
            now.pupils.remove(now.pupils.size() - 1);
            return now.pupils.size();
        });
    }

    public int its(int pupil, int what) {
        return act(() -> {
            Pupil p = one(pupil);
            ask(what >= 0 && what <= 5 || what >= 10 && what <= 13, "BEYOND");
            if (what >= 10) {
                return p.put.getOrDefault(what - 10, -1);
            }
            return new int[] {p.kind, p.away, p.wishes, busy(p, -1), cost(p.kind, busy(p, -1)), p.put.size()}[what];
        });
    }

    public int change(int pupil, int what, int v) {
        return changing(() -> {
            Pupil p = one(pupil);
            range(what, 0, 2);
            range(v, 0, new int[] {5, (1 << 20) - 1, 15}[what]);
            ask(what != 1 || (v & busy(p, -1)) == 0, "STATE");
            int was = new int[] {p.kind, p.away, p.wishes}[what];
            if (what == 0) {
                p.kind = v;
            } else if (what == 1) {
                p.away = v;
            } else {
                p.wishes = v;
                p.put.keySet().removeIf(c -> !wishes(p, c));
            }
            return was;
        });
    }

    public int as(int pupil, int kind) {
        return act(() -> {
            Pupil p = one(pupil);
            range(kind, 0, 5);
            int k = p.kind;
            while (k != kind) {
                ask(k != 0, "KIND");
                k = KIND_ABOVE[k];
            }
            return cost(kind, busy(p, -1));
        });
    }

    public int fits(int pupil, int course) {
        return act(() -> whySet(pupil, course, 2));
    }

    public int why(int pupil, int course, int what) {
        return act(() -> {
            one(pupil);
            range(course, 0, 3);
            range(what, 0, 1);
            return whySet(pupil, course, what);
        });
    }

    private int whySet(int pupil, int course, int what) {
        Pupil p = one(pupil);
        range(course, 0, 3);
        ask(wishes(p, course), "NONE");
        int set = 0;
        for (int t = 0; t < 8; t++) {
            if (partsOf(course, t) != null) {
                int is = !hoursFit(p, course, t) ? 0 : !seatsFit(p, course, t) ? 1 : 2;
                set |= is == what ? 1 << t : 0;
            }
        }
        return set;
    }

    public int both(int pupil, int other) {
        return act(() -> {
            Pupil p = one(pupil);
            Pupil q = one(other);
            ask(p != q, "BEYOND");
            return busy(p, -1) & busy(q, -1);
        });
    }

    public int put(int pupil, int course, int triple) {
        return changing(() -> {
            Pupil p = one(pupil);
            range(course, 0, 3);
            range(triple, 0, 7);
            ask(wishes(p, course), "NONE");
            ask((whySet(pupil, course, 2) >> triple & 1) == 1, "STATE");
            Integer was = p.put.put(course, triple);
            return was == null ? -1 : was;
        });
    }

    public int out(int pupil, int course) {
        return changing(() -> {
            Pupil p = one(pupil);
            range(course, 0, 3);
            ask(p.put.containsKey(course), "NONE");
            return p.put.remove(course);
        });
    }

    public int pick(int pupil, int course, int rule) {
        return changing(() -> {
            int t = pickOf(pupil, course, rule);
            one(pupil).put.put(course, t);
            return t;
        });
    }

    public int would(int pupil, int course, int rule) {
        return act(() -> pickOf(pupil, course, rule));
    }

    public int fill(int rule) {
        return changing(() -> {
            range(rule, 0, 4);
            int n = 0;
            for (int p = 0; p < now.pupils.size(); p++) {
                for (int c = 0; c < 4; c++) {
                    if (!one(p).put.containsKey(c)) {
                        n += order(p, c, rule);
                    }
                }
            }
            return n;
        });
    }

    public int trade(int pupil, int other, int course) {
        return changing(() -> {
            Pupil p = one(pupil);
            Pupil q = one(other);
            ask(p != q, "BEYOND");
            range(course, 0, 3);
            ask(p.put.containsKey(course) && q.put.containsKey(course), "NONE");
            int a = p.put.get(course);
            int b = q.put.get(course);
            ask(hoursFit(p, course, b) && hoursFit(q, course, a), "STATE");
            p.put.put(course, b);
            q.put.put(course, a);
            return 1;
        });
    }

    public int most(int course) {
        return act(() -> {
            range(course, 0, 3);
            return seatedBy(best(course, false));
        });
    }

    public int seat(int course) {
        return changing(() -> {
            range(course, 0, 3);
            int[] digits = best(course, false);
            int n = movedBy(course, digits);
            become(course, digits);
            return n;
        });
    }

    public int evens(int course) {
        return changing(() -> {
            range(course, 0, 3);
            become(course, best(course, true));
            return unevenBy(course, digitsNow(course));
        });
    }

    public int chain(int pupil, int course) {
        return act(() -> movedBy(course, letting(pupil, course)));
    }

    public int lets(int pupil, int course) {
        return changing(() -> {
            become(course, letting(pupil, course));
            return one(pupil).put.get(course);
        });
    }

    public long ways(int course) {
        return longAct(() -> {
            range(course, 0, 3);
            return seatings(course).size();
        });
    }

    public int orders(int s) {
        return changing(() -> {
            range(s, 0, 3);
            ask(sheets[s] != null, "MISSING");
            int n = 0;
            for (int i = 0; i < sheets[s].length / 3; i++) {
                n += order(sheets[s][3 * i], sheets[s][3 * i + 1], sheets[s][3 * i + 2]);
            }
            return n;
        });
    }

    public int loose(int n) {
        return changing(() -> {
            range(n, 1, 20);
            int done = 0;
            for (int i = 0; i < n; i++) {
                int[] drawn = new int[3];
                for (int j = 0; j < 3; j++) {
                    z = z * 1103515245 + 12345;
                    drawn[j] = z >>> 8;
                }
                done += order(drawn[0] % 6, drawn[1] % 4, drawn[2] % 5);
            }
            return done;
        });
    }

    public int seed(int v) {
        int was = z;
        z = v;
        return was;
    }

    public int feed(int bytes, int n) {
        return act(() -> {
            range(n, 1, 4);
            ask(tape.size() + n <= 120, "FULL");
            int[] four = {bytes >>> 24, bytes >>> 16 & 255, bytes >>> 8 & 255, bytes & 255};
            for (int i = 4 - n; i < 4; i++) {
                tape.add(four[i]);
            }
            return tape.size();
        });
    }

    public int wipe() {
        int n = tape.size();
        tape.clear();
        return n;
    }

    // ---- texts: words with their places, eaten from the left

    private static final class Fault extends RuntimeException {
        private static final long serialVersionUID = 1L;
        final int at;
        Fault(int at) {
            super("fault", null, false, false);
            this.at = at;
        }
    }

    private final List<String> words = new ArrayList<>();
    private final List<Integer> places = new ArrayList<>();
    private int next;

    private void cut() {
        words.clear();
        places.clear();
        next = 0;
        StringBuilder all = new StringBuilder();
        for (int b : tape) {
            all.append((char) b);
        }
        int from = 0;
        for (String word : all.toString().split(" ", -1)) {
            if (!word.isEmpty()) {
                words.add(word);
                places.add(from);
            }
            from += word.length() + 1;
        }
        words.add("");
        places.add(tape.size());
    }

    private boolean sees(String regex) {
        return words.get(next).matches(regex);
    }

    private String eat(String regex) {
        if (!sees(regex)) {
            throw new Fault(places.get(next));
        }
        next++;
        return words.get(next - 1);
    }

    private static final String HOUR = "[0-9]|1[0-9]";

    private int eatHours() {
        int set = 1 << Integer.parseInt(eat(HOUR));
        while (sees(HOUR)) {
            set |= 1 << Integer.parseInt(eat(HOUR));
        }
        return set;
    }

    private void eatItem() {
        if (sees("lecture|lab|drill")) {
            int sort = List.of("lecture", "lab", "drill").indexOf(eat(".*"));
            int course = eat("[abcd]").charAt(0) - 'a';
            int which = Integer.parseInt(eat("[01]"));
            int time = eatHours();
            eat("cap");
            int cap = Integer.parseInt(eat("[0-9]"));
            int link = -1;
            if (sees("with")) {
                eat("with");
                link = Integer.parseInt(eat("[01]"));
            }
            try {
                openSection(course, sort, which, time, cap, link);
            } catch (Refusal r) {
                throw new Fault(places.get(next - 1));
            }
            return;
        }
        int kind = Arrays.asList(KIND_WORDS).indexOf(words.get(next));
        if (kind < 0 || now.pupils.size() == 6) {
            throw new Fault(places.get(next));
        }
        next++;
        int away = 0;
        if (sees("away")) {
            eat("away");
            away = eatHours();
        }
        int wishes = 0;
        if (sees("wish")) {
            eat("wish");
            do {
                wishes |= 1 << eat("[abcd]").charAt(0) - 'a';
            } while (sees("[abcd]"));
        }
        add(kind, away, wishes);
    }

    public int text() {
        World before = now.twin();
        cut();
        tape = new ArrayList<>();
        try {
            int items = 1;
            eatItem();
            while (next < words.size() - 1) {
                eat(";");
                eatItem();
                items++;
            }
            past.push(before);
            if (past.size() > 30) {
                past.removeLast();
            }
            return items;
        } catch (Fault f) {
            now = before;
            return -1 - f.at;
        }
    }

    public int line(int pupil, int k) {
        return act(() -> {
            Pupil p = one(pupil);
            StringBuilder text = new StringBuilder(KIND_WORDS[p.kind]);
            p.put.forEach((course, triple) -> {
                text.append(' ').append("abcd".charAt(course));
                int[] which = {triple / 4, triple / 2 % 2, triple % 2};
                Section[] parts = partsOf(course, triple);
                for (int sort = 0; sort < 3; sort++) {
                    text.append(parts[sort] == null ? "-" : String.valueOf(which[sort]));
                }
            });
            if (k == -1) {
                return text.length();
            }
            ask(k >= 0 && k < text.length(), "NONE");
            return text.charAt(k);
        });
    }

    public int sheet(int s, int sort, int n) {
        return act(() -> {
            range(s, 0, 3);
            range(sort, -1, 2);
            if (sort == -1) {
                sheets[s] = null;
                return 0;
            }
            ask(n >= 0, "SIZE");
            range(n, 0, 40);
            sheets[s] = new long[n];
            sorts[s] = sort;
            return n;
        });
    }

    public int write(int s, int i, long v) {
        return act(() -> {
            range(s, 0, 3);
            ask(sheets[s] != null, "MISSING");
            range(i, 0, sheets[s].length - 1);
            sheets[s][i] = sorts[s] == 0 ? (byte) v : sorts[s] == 1 ? (int) v : v;
            return 1;
        });
    }

    public long item(int s, int i) {
        return longAct(() -> {
            range(s, 0, 3);
            ask(sheets[s] != null, "MISSING");
            range(i, 0, sheets[s].length - 1);
            return sheets[s][i];
        });
    }

    public int copy(int s, int i, int t, int j, int n) {
        return act(() -> {
            range(s, 0, 3);
            range(t, 0, 3);
            ask(sheets[s] != null && sheets[t] != null, "MISSING");
            ask(sorts[s] == sorts[t], "KIND");
            ask(i >= 0 && j >= 0 && n >= 0, "BEYOND");
            ask((long) i + n <= sheets[s].length && (long) j + n <= sheets[t].length, "BEYOND");
            long[] were = Arrays.copyOfRange(sheets[s], i, i + n);
            for (int m = 0; m < n; m++) {
                sheets[t][j + m] = were[m];
            }
            return n;
        });
    }

    public int undo() {
        return act(() -> {
            ask(!past.isEmpty(), "NONE");
            now = past.pop();
            return past.size();
        });
    }

    public int count(int what) {
        return act(() -> {
            range(what, 0, 7);
            int open = 0;
            for (Section[][] course : now.sections) {
                for (Section[] two : course) {
                    open += (two[0] != null ? 1 : 0) + (two[1] != null ? 1 : 0);
                }
            }
            int puts = 0;
            int costs = 0;
            int unmet = 0;
            for (Pupil p : now.pupils) {
                puts += p.put.size();
                costs += cost(p.kind, busy(p, -1));
                for (int c = 0; c < 4; c++) {
                    unmet += wishes(p, c) && !p.put.containsKey(c) ? 1 : 0;
                }
            }
            return new int[] {now.pupils.size(), open, puts, costs, past.size(), z, tape.size(), unmet}[what];
        });
    }

    public int status(int which) {
        return act(() -> {
            if (which == -1) {
                return Arrays.stream(told).sum();
            }
            range(which, 0, 7);
            return told[which];
        });
    }
}
