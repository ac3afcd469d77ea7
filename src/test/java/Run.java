import java.lang.reflect.InvocationTargetException;
import java.lang.reflect.Method;
import java.lang.reflect.Modifier;
import java.nio.charset.StandardCharsets;
import java.util.ArrayList;
import java.util.HashMap;
import java.util.List;
import java.util.Map;

/**
 * A run of calls, told as texts, from which any number of like objects can be made: so each question is asked of an
 * object of its own, and none of them goes past its 512th call.
 *
 * <p>Numbers may be told as sets, {0 19} being the bits 0 and 19, or as MIN and MAX (ints), LMIN and LMAX (longs). Beside
 * the calls of the face there are tape 'words', which feeds the bytes of the words, and tell 'words', which feeds them
 * and then reads the text.
 */
final class Run {
    private static final Map<String, Method> FACE = new HashMap<>();

    static {
        for (Method m : SectionOffice.class.getDeclaredMethods()) {
            if (Modifier.isPublic(m.getModifiers())) {
                FACE.put(m.getName(), m);
            }
        }
    }

    private final List<String> calls = new ArrayList<>();

    Run(String... first) {
        calls.addAll(List.of(first));
    }

    /** This run with more calls behind it; it stays as it is itself. */
    Run then(String... more) {
        Run longer = new Run();
        longer.calls.addAll(calls);
        longer.calls.addAll(List.of(more));
        return longer;
    }

    SectionOffice made() {
        SectionOffice x = new SectionOffice();
        for (String call : calls) {
            answer(x, call);
        }
        return x;
    }

    long ask(String call) {
        return answer(made(), call);
    }

    static long answer(SectionOffice x, String call) {
        int quote = call.indexOf('\'');
        if (quote >= 0) {
            int fed = feed(x, call.substring(quote + 1, call.length() - 1));
            return call.startsWith("tell") ? x.text() : fed;
        }
        int open = call.indexOf('(');
        Method m = FACE.get(call.substring(0, open));
        String inside = call.substring(open + 1, call.length() - 1).trim();
        String[] words = inside.isEmpty() ? new String[0] : inside.split(" *, *");
        Class<?>[] types = m.getParameterTypes();
        Object[] arguments = new Object[words.length];
        for (int i = 0; i < words.length; i++) {
            long v = number(words[i]);
            arguments[i] = types[i] == long.class ? (Object) v : (Object) Math.toIntExact(v);
        }
        try {
            return ((Number) m.invoke(x, arguments)).longValue();
        } catch (InvocationTargetException | IllegalAccessException e) {
            throw new AssertionError(call + " has thrown", e);
        }
    }

    private static int feed(SectionOffice x, String words) {
        byte[] bytes = words.getBytes(StandardCharsets.ISO_8859_1);
        int has = x.count(6);
        for (int i = 0; i < bytes.length;) {
            int n = Math.min(4, bytes.length - i);
            int four = 0;
            for (int j = 0; j < n; j++) {
                four = four << 8 | bytes[i + j] & 255;
            }
            has = x.feed(four, n);
            i += n;
        }
        return has;
    }

    static long number(String word) {
        if (word.startsWith("{")) {
            int set = 0;
            for (String bit : word.substring(1, word.length() - 1).trim().split(" +")) {
                set |= bit.isEmpty() ? 0 : 1 << Integer.parseInt(bit);
            }
            return set;
        }
        switch (word) {
            case "MIN":
                return Integer.MIN_VALUE;
            case "MAX":
                return Integer.MAX_VALUE;
            case "LMIN":
                return Long.MIN_VALUE;
            case "LMAX":
                return Long.MAX_VALUE;
            default:
                return Long.parseLong(word);
        }
    }

    @Override
    public String toString() {
        int from = Math.max(0, calls.size() - 6);
        return (from > 0 ? ".. " : "") + String.join(", ", calls.subList(from, calls.size()));
    }
}
