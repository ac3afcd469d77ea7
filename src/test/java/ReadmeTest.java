import java.io.IOException;
import java.lang.reflect.Method;
import java.lang.reflect.Modifier;
import java.net.URL;
import java.net.URLClassLoader;
import java.nio.file.Files;
import java.nio.file.Path;
import java.util.ArrayList;
import java.util.Comparator;
import java.util.List;
import java.util.Set;
import java.util.TreeSet;
import java.util.regex.Matcher;
import java.util.regex.Pattern;
import java.util.stream.Stream;
import javax.tools.ToolProvider;

/**
 * Holds README.md against what is so: its Java, all blocks behind one another, compiles as it stands and answers what
 * the notes at the ends of its lines say; each call of the face is shown; the tests that it names are those there are.
 */
public final class ReadmeTest {
    private static final Pattern BLOCK = Pattern.compile("(?ms)^```java\\n(.*?)^```$");
    /** A call, perhaps kept under a name, and the answer that is told of it. */
    private static final Pattern TOLD = Pattern.compile("((?:int|long) (\\w+) = )?(office\\..*); *// (-?\\d+)(?:: .*)?");
    private static final Pattern TEST_NAME = Pattern.compile("`(\\w+Test)`");

    private static final List<String> FAULTS = new ArrayList<>();

    public static void main(String[] args) throws Exception {
        Path source = Path.of(args.length > 0 ? args[0] : "src/main/java/SectionOffice.java").toAbsolutePath();
        Path root = source.resolve("../../../..").normalize();
        String readme = Files.readString(root.resolve("README.md"));
        List<String> lines = linesOfJava(readme);
        Path build = Files.createTempDirectory("readme");
        try {
            compile(build, source, "Shown", lines);
            compile(build, source, "Held", held(lines));
            int asked = FAULTS.isEmpty() ? ask(build) : 0;
            checkFaceIsShown(lines);
            checkTestsAreNamed(readme, root.resolve("src/test/java"));
            FAULTS.forEach(System.out::println);
            System.out.println(asked + " answers of README.md asked, " + FAULTS.size() + " faults");
        } finally {
            remove(build);
        }
        if (!FAULTS.isEmpty()) {
            System.exit(1);
        }
    }

    private static List<String> linesOfJava(String readme) {
        List<String> lines = new ArrayList<>();
        Matcher m = BLOCK.matcher(readme);
        while (m.find()) {
            lines.addAll(List.of(m.group(1).split("\n")));
        }
        if (lines.isEmpty()) {
            FAULTS.add("README.md shows no Java");
        }
        return lines;
    }

    /** The same lines, each answer that one tells being kept with the one that is got. */
    private static List<String> held(List<String> lines) {
        List<String> held = new ArrayList<>();
        for (String line : lines) {
            Matcher m = TOLD.matcher(line);
            if (!m.matches()) {
                held.add(line);
                if (line.contains("office.") && !line.startsWith(" ")) {
                    FAULTS.add("no answer is told: " + line);
                }
                continue;
            }
            String kept = m.group(2);
            if (kept != null) {
                held.add(m.group(1) + m.group(3) + ";");
            }
            String call = m.group(3).replace("\\", "\\\\").replace("\"", "\\\"");
            held.add("told.add(\"" + call + "\"); got.add(0L + " + (kept == null ? m.group(3) : kept) + ");"
                    + " due.add(" + m.group(4) + "L);");
        }
        return held;
    }

    private static void compile(Path build, Path source, String name, List<String> lines) throws IOException {
        Path file = build.resolve(name + ".java");
        String rows = "java.util.List<String> told, java.util.List<Long> got, java.util.List<Long> due";
        Files.writeString(file, "public final class " + name + " {\npublic static void run(" + rows + ") {\n"
                + String.join("\n", lines) + "\n}\n}\n");
        int code = ToolProvider.getSystemJavaCompiler().run(null, null, null, "-Xlint:all", "-Werror", "-proc:none",
                "-d", build.toString(), source.toString(), file.toString());
        if (code != 0) {
            FAULTS.add("the Java of README.md doesn't compile (" + name + ")");
        }
    }

    private static int ask(Path build) throws Exception {
        List<String> told = new ArrayList<>();
        List<Long> got = new ArrayList<>();
        List<Long> due = new ArrayList<>();
        ClassLoader above = ClassLoader.getPlatformClassLoader();
        try (URLClassLoader loader = new URLClassLoader(new URL[] {build.toUri().toURL()}, above)) {
            loader.loadClass("Held").getMethod("run", List.class, List.class, List.class).invoke(null, told, got, due);
        }
        for (int i = 0; i < told.size(); i++) {
            if (!got.get(i).equals(due.get(i))) {
                FAULTS.add(told.get(i) + " answered " + got.get(i) + ", README.md says " + due.get(i));
            }
        }
        return told.size();
    }

    private static void checkFaceIsShown(List<String> lines) {
        String all = String.join("\n", lines);
        for (Method m : SectionOffice.class.getDeclaredMethods()) {
            if (Modifier.isPublic(m.getModifiers()) && !all.contains("office." + m.getName() + "(")) {
                FAULTS.add("README.md doesn't show " + m.getName());
            }
        }
    }

    private static void checkTestsAreNamed(String readme, Path tests) throws IOException {
        Set<String> named = new TreeSet<>();
        Matcher m = TEST_NAME.matcher(readme);
        while (m.find()) {
            named.add(m.group(1));
        }
        Set<String> there = new TreeSet<>();
        try (Stream<Path> files = Files.list(tests)) {
            files.map(file -> file.getFileName().toString()).filter(name -> name.endsWith("Test.java"))
                    .forEach(name -> there.add(name.substring(0, name.length() - ".java".length())));
        }
        if (!named.equals(there)) {
            FAULTS.add("README.md names the tests " + named + ", there are " + there);
        }
    }

    private static void remove(Path directory) throws IOException {
        try (Stream<Path> files = Files.walk(directory)) {
            for (Path file : files.sorted(Comparator.reverseOrder()).toList()) {
                Files.delete(file);
            }
        }
    }
}
