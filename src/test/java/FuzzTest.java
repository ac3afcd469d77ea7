import java.lang.reflect.InvocationTargetException;
import java.lang.reflect.Method;
import java.util.ArrayList;
import java.util.Arrays;
import java.util.HashMap;
import java.util.List;
import java.util.Map;
import java.util.Random;

/** Runs of calls drawn by fixed seeds, answered by the class and by the oracle; every answer must be alike. */
public final class FuzzTest {
    private static final int RUNS = 1200;
    private static final int CALLS = 512;
    /** How many calls at most it takes to wipe the tape, feed all of it and read it. */
    private static final int LONGEST_TEXT = 122;
    private static final String[] WORDS = {"pupil", "early", "late", "athlete", "night", "free", "away", "wish",
        "lecture", "lab", "drill", "cap", "with", ";", "a", "b", "c", "d", "e", "0", "1", "2", "7", "10", "19", "20",
        "00", "01", "x", "pupil;", "\u00e9"};

    private static final Map<String, Method> OURS = new HashMap<>();
    private static final Map<String, Method> DUE = new HashMap<>();
    private static final List<String> NAMES = new ArrayList<>();

    private static final Map<String, String> ROLES = new HashMap<>();

    private final Random random;
    private final SectionOffice office = new SectionOffice();
    private final Oracle oracle = new Oracle();
    private final List<String> log = new ArrayList<>();
    private final boolean wild;
    private final boolean crowded;
    private final int focus;
    private boolean differs;

    private FuzzTest(long seed) {
        random = new Random(seed);
        wild = seed % 10 == 0;
        crowded = seed % 3 == 1;
        focus = random.nextInt(4);
    }

    public static void main(String[] args) {
        tellRoles();
        for (Method m : SectionOffice.class.getDeclaredMethods()) {
            if (java.lang.reflect.Modifier.isPublic(m.getModifiers())) {
                OURS.put(m.getName(), m);
                NAMES.add(m.getName());
            }
        }
        NAMES.sort(null);
        for (Method m : Oracle.class.getDeclaredMethods()) {
            if (java.lang.reflect.Modifier.isPublic(m.getModifiers())) {
                DUE.put(m.getName(), m);
            }
        }
        int runs = Integer.getInteger("runs", RUNS);
        int wrong = 0;
        for (int seed = 0; seed < runs && wrong < 3; seed++) {
            FuzzTest run = new FuzzTest(seed);
            run.go();
            if (run.differs) {
                wrong++;
                System.out.println("seed " + seed + ":");
                int from = Math.max(0, run.log.size() - 400);
                run.log.subList(from, run.log.size()).forEach(System.out::println);
            }
        }
        System.out.println(wrong == 0 ? runs + " runs are answered as by the oracle" : wrong + " runs differ");
        if (wrong != 0) {
            System.exit(1);
        }
    }

    /** What the arguments of each act are; a number n stands for 0 to n - 1. */
    private static void tellRoles() {
        ROLES.put("section", "course 3 2 hours 10 link");
        ROLES.put("shut", "course 3 2");
        ROLES.put("of", "course 3 2 6");
        ROLES.put("triples", "course");
        ROLES.put("time", "course 8");
        ROLES.put("uneven", "course");
        ROLES.put("pupil", "6 hours wishes");
        ROLES.put("its", "6 14");
        ROLES.put("change", "6 3 v");
        ROLES.put("as", "6 6");
        ROLES.put("fits", "6 course");
        ROLES.put("why", "6 course 2");
        ROLES.put("both", "6 6");
        ROLES.put("put", "6 course 8");
        ROLES.put("out", "6 course");
        ROLES.put("pick", "6 course 5");
        ROLES.put("would", "6 course 5");
        ROLES.put("fill", "5");
        ROLES.put("trade", "6 6 course");
        ROLES.put("most", "course");
        ROLES.put("seat", "course");
        ROLES.put("evens", "course");
        ROLES.put("chain", "6 course");
        ROLES.put("lets", "6 course");
        ROLES.put("ways", "course");
        ROLES.put("orders", "4");
        ROLES.put("loose", "21");
        ROLES.put("seed", "any");
        ROLES.put("feed", "blanks 5");
        ROLES.put("line", "6 sign");
        ROLES.put("sheet", "4 3 row");
        ROLES.put("write", "4 place number");
        ROLES.put("item", "4 place");
        ROLES.put("copy", "4 place 4 place place");
        ROLES.put("count", "8");
        ROLES.put("status", "which");
    }

    private void go() {
        if (crowded) {
            crowd();
            return;
        }
        if (!wild) {
            prepare();
        }
        while (log.size() < CALLS && !differs) {
            if (random.nextInt(60) == 0 && log.size() + LONGEST_TEXT <= CALLS) {
                tellText();
            } else {
                String name = drawName();
                call(name, drawArguments(name));
            }
        }
    }

    /** One course with few seats, taken in the order of the numbers: here pupils must move to let others in. */
    private void crowd() {
        boolean tight = random.nextBoolean();
        for (int part = 0; part < 6; part++) {
            int more = !tight && random.nextInt(3) == 0 ? 1 << random.nextInt(8) : 0;
            int cap = tight ? 2 + random.nextInt(2) : 1 + random.nextInt(4);
            if (tight || part < 2 || random.nextInt(5) > 0) {
                call("section", focus, part / 2, part % 2, 1 << part | more, cap,
                        random.nextInt(tight ? 3 : 5) == 0 ? random.nextInt(2) : -1);
            }
        }
        for (int i = tight ? 6 : 3 + random.nextInt(4); i > 0; i--) {
            call("pupil", random.nextInt(6), tight ? sparseBelow(6, 1 + random.nextInt(2)) : sparseBelow(8, random.nextInt(3)),
                    random.nextInt(8) == 0 ? 0 : 15);
        }
        while (log.size() < 300 && !differs) {
            crowdRound();
        }
    }

    private void crowdRound() {
        int rule = random.nextInt(5);
        for (int i = 0; i < 6; i++) {
            if (random.nextInt(3) == 0) {
                call("out", i, focus);
            }
        }
        for (int i = 0; i < 5; i++) {
            call(random.nextInt(3) == 0 ? "put" : "pick", random.nextInt(6), focus,
                    random.nextInt(3) > 0 ? rule : random.nextInt(8));
        }
        for (int i = 0; i < 6; i++) {
            call("chain", i, focus);
        }
        String[] acts = {"lets", "lets", "seat", "evens", "trade", "undo"};
        String name = acts[random.nextInt(acts.length)];
        call(name, drawArguments(name));
        for (String told : List.of("ways", "most", "uneven")) {
            call(told, focus);
        }
        for (int i = 0; i < 6; i++) {
            call("its", i, 10 + focus);
        }
        if (random.nextInt(6) == 0) {
            call("change", random.nextInt(6), 1, sparseBelow(8, 2));
        }
    }

    private int sparseBelow(int end, int bits) {
        int set = 0;
        for (int i = 0; i < bits; i++) {
            set |= 1 << random.nextInt(end);
        }
        return set;
    }

    /** Without a start nearly every act would answer a finding; small caps make the pupils push one another. */
    private void prepare() {
        int pupils = 3 + random.nextInt(4);
        for (int i = 0; i < pupils; i++) {
            call("pupil", random.nextInt(6), sparse(random.nextInt(3)), random.nextInt(4) == 0 ? 1 << focus : 15);
        }
        int most = 1 + random.nextInt(4);
        for (int i = 0; i < 12; i++) {
            call("section", i < 6 ? focus : random.nextInt(4), i % 6 / 2, i % 2, sparse(1 + random.nextInt(2)),
                    i % 6 < 2 ? 3 : 1 + random.nextInt(most), random.nextInt(4) == 0 ? random.nextInt(2) : -1);
        }
        for (int i = random.nextInt(3); i > 0; i--) {
            call("shut", focus, 1 + random.nextInt(2), random.nextInt(2));
        }
    }

    private int sparse(int bits) {
        return sparseBelow(20, bits);
    }

    private String drawName() {
        String name = NAMES.get(random.nextInt(NAMES.size()));
        boolean destroys = List.of("leave", "undo", "shut", "wipe", "change", "section").contains(name);
        if (destroys && random.nextInt(3) > 0) {
            return List.of("pick", "put", "out", "trade", "fits", "lets", "seat", "pupil").get(random.nextInt(8));
        }
        return name;
    }

    private Object[] drawArguments(String name) {
        Class<?>[] types = OURS.get(name).getParameterTypes();
        String[] roles = ROLES.getOrDefault(name, "").split(" ");
        Object[] drawn = new Object[types.length];
        for (int i = 0; i < types.length; i++) {
            long v = drawNumber(roles[i]);
            drawn[i] = types[i] == long.class ? (Object) v : (Object) (int) v;
        }
        return drawn;
    }

    private long drawNumber(String role) {
        int odd = random.nextInt(wild ? 8 : 100);
        if (odd == 0) {
            return new long[] {-1, -2, Integer.MIN_VALUE, Integer.MAX_VALUE, 1 << 20, Long.MAX_VALUE, 1L << 32, 41}
                [random.nextInt(8)];
        }
        return odd == 1 ? random.nextInt() : usual(role);
    }

    private long usual(String role) {
        switch (role) {
            case "course":
                return random.nextInt(5) > 0 ? focus : random.nextInt(4);
            case "hours":
                return sparse(random.nextInt(4));
            case "wishes":
                return random.nextInt(3) == 0 ? random.nextInt(16) : 15;
            case "link":
                return random.nextInt(4) == 0 ? random.nextInt(2) : -1;
            case "v":
                return random.nextBoolean() ? random.nextInt(16) : sparse(2);
            case "sign":
                return random.nextInt(30) - 1;
            case "row":
                return 3 * random.nextInt(13) + random.nextInt(3);
            case "number":
                return random.nextInt(10) == 0 ? random.nextLong() : random.nextInt(5);
            case "place":
                return random.nextInt(12);
            case "any":
                return random.nextInt();
            case "blanks":
                return 0x20202020;
            case "which":
                return random.nextInt(10) - 1;
            default:
                return random.nextInt(Integer.parseInt(role));
        }
    }

    private void tellText() {
        call("wipe");
        StringBuilder text = new StringBuilder();
        int items = 1 + random.nextInt(4);
        for (int i = 0; i < items; i++) {
            text.append(i == 0 ? "" : " ; ").append(drawItem());
        }
        if (random.nextInt(3) == 0) {
            String[] words = text.toString().split(" ");
            words[random.nextInt(words.length)] = WORDS[random.nextInt(WORDS.length)];
            text = new StringBuilder(String.join(random.nextInt(4) == 0 ? "  " : " ", words));
        }
        if (random.nextInt(6) == 0) {
            text.setLength(random.nextInt(text.length() + 1));
        }
        String all = (random.nextInt(5) == 0 ? " " : "") + text + (random.nextInt(5) == 0 ? "  " : "");
        for (int i = 0; i < all.length() && i < 120;) {
            int n = Math.min(1 + random.nextInt(4), Math.min(all.length(), 120) - i);
            int bytes = random.nextInt();
            for (int j = 0; j < n; j++) {
                bytes = bytes << 8 | all.charAt(i + j);
            }
            call("feed", bytes, n);
            i += n;
        }
        call("text");
    }

    private String drawItem() {
        StringBuilder item = new StringBuilder();
        if (random.nextInt(3) == 0) {
            item.append(WORDS[random.nextInt(6)]);
            if (random.nextBoolean()) {
                item.append(" away").append(drawHours());
            }
            if (random.nextInt(3) > 0) {
                item.append(" wish");
                for (int i = random.nextInt(4); i >= 0; i--) {
                    item.append(' ').append("abcd".charAt(random.nextInt(4)));
                }
            }
            return item.toString();
        }
        item.append(WORDS[8 + random.nextInt(3)]).append(' ').append("abcd".charAt(random.nextInt(4))).append(' ');
        item.append(random.nextInt(2)).append(drawHours()).append(" cap ").append(random.nextInt(10));
        if (random.nextInt(3) == 0) {
            item.append(" with ").append(random.nextInt(2));
        }
        return item.toString();
    }

    private String drawHours() {
        StringBuilder hours = new StringBuilder();
        for (int i = random.nextInt(3); i >= 0; i--) {
            hours.append(' ').append(random.nextInt(20));
        }
        return hours.toString();
    }

    private void call(String name, Object... arguments) {
        if (differs) {
            return;
        }
        Object got = answer(OURS.get(name), office, arguments);
        Object due = answer(DUE.get(name), oracle, arguments);
        String told = Arrays.toString(arguments);
        String line = name + "(" + told.substring(1, told.length() - 1) + ") answered " + got;
        if (!got.equals(due)) {
            differs = true;
            line += ", due is " + due;
        }
        log.add(line);
    }

    private static Object answer(Method m, Object on, Object[] arguments) {
        try {
            return m.invoke(on, arguments);
        } catch (InvocationTargetException e) {
            return "thrown: " + e.getCause();
        } catch (IllegalAccessException e) {
            return "not to be called: " + e;
        }
    }
}
