import java.io.ByteArrayOutputStream;
import java.io.PrintStream;
import java.lang.reflect.Method;
import java.lang.reflect.Modifier;
import java.net.URL;
import java.net.URLClassLoader;
import java.nio.charset.StandardCharsets;
import java.nio.file.Files;
import java.nio.file.Path;
import java.util.ArrayList;
import java.util.List;
import java.util.Set;
import java.util.TreeSet;
import java.util.regex.Matcher;
import java.util.regex.Pattern;
import java.util.stream.Stream;
import javax.tools.JavaCompiler;
import javax.tools.ToolProvider;

/** That README.md holds: its example compiles and prints what it says, its faults are told, every call has a line. */
public final class ReadmeTests {
    private static final Checks checks = new Checks();

    private static String blockOf(String readme, String sort) {
        String from = "```" + sort + "\n";
        int begin = readme.indexOf(from);
        int end = begin < 0 ? -1 : readme.indexOf("```\n", begin + from.length());
        return end < 0 ? "" : readme.substring(begin + from.length(), end);
    }

    private static void example(String readme) throws Exception {
        Path room = Files.createTempDirectory("readme");
        try {
            Path source = room.resolve("Example.java");
            Files.writeString(source, blockOf(readme, "java"));
            JavaCompiler compiler = ToolProvider.getSystemJavaCompiler();
            checks.due("there is a compiler", compiler != null, true);
            int failed = compiler == null ? 1 : compiler.run(null, null, null, "-Xlint:all", "-Werror",
                "-cp", System.getProperty("java.class.path"), "-d", room.toString(), source.toString());
            checks.due("the example compiles", failed, 0);
            if (failed == 0) {
                String printed = printedBy(room);
                checks.due("the example prints\n" + printed, printed.equals(blockOf(readme, "text")), true);
            }
        } finally {
            removeAll(room);
        }
    }

    private static String printedBy(Path room) throws Exception {
        PrintStream before = System.out;
        ByteArrayOutputStream caught = new ByteArrayOutputStream();
        try (URLClassLoader loader = new URLClassLoader(new URL[] {room.toUri().toURL()})) {
            System.setOut(new PrintStream(caught, true, StandardCharsets.UTF_8));
            Method main = loader.loadClass("Example").getMethod("main", String[].class);
            main.invoke(null, (Object) new String[0]);
        } finally {
            System.setOut(before);
        }
        return caught.toString(StandardCharsets.UTF_8).replace("\r\n", "\n");
    }

    private static void removeAll(Path room) throws Exception {
        List<Path> all = new ArrayList<>();
        try (Stream<Path> files = Files.walk(room)) {
            files.forEach(all::add);
        }
        for (int i = all.size() - 1; i >= 0; i--) {
            Files.delete(all.get(i));
        }
    }

    /** Each fault of the table, as a realm told to a new object. */
    private static void faults(String readme) {
        Matcher rows = Pattern.compile("^\\| ([1-5]) \\| .* \\| `([^`]+)` \\| (\\d+) \\|$", Pattern.MULTILINE).matcher(readme);
        int kinds = 0;
        while (rows.find()) {
            kinds++;
            int told = Integer.parseInt(rows.group(3));
            FoldedRealm x = new FoldedRealm();
            Checks.feed(x, rows.group(2));
            checks.due("fault of " + rows.group(2), x.realm(), told);
            checks.due("kind of " + rows.group(2), told % 16, Integer.parseInt(rows.group(1)));
            checks.due("in their order " + rows.group(2), Integer.parseInt(rows.group(1)), kinds);
        }
        checks.due("kinds of faults", kinds, 5);
    }

    /** Each call has one line, with as many arguments as it takes. */
    private static void calls(String readme) {
        Matcher rows = Pattern.compile("^\\| `(\\w+)\\(([^)`]*)\\)` \\| \\S.* \\|$", Pattern.MULTILINE).matcher(readme);
        Set<String> told = new TreeSet<>();
        while (rows.find()) {
            int arguments = rows.group(2).isEmpty() ? 0 : rows.group(2).split(",").length;
            checks.due("told once: " + rows.group(1), told.add(rows.group(1) + "/" + arguments), true);
        }
        Set<String> face = new TreeSet<>();
        for (Method m : FoldedRealm.class.getDeclaredMethods()) {
            if (Modifier.isPublic(m.getModifiers())) {
                face.add(m.getName() + "/" + m.getParameterCount());
            }
        }
        checks.due("calls told " + told + ", calls there are " + face, told.equals(face), true);
    }

    /** The lines of a realm and of Sundays, with names and numbers put in, are read without a fault. */
    private static void lines(String readme) {
        Matcher rows = Pattern.compile("^\\| `([a-z]+ (?:[A-Za-z ]+ )?;)` \\| ", Pattern.MULTILINE).matcher(readme);
        int realmLines = 0;
        int sundayLines = 0;
        while (rows.find()) {
            String line = rows.group(1);
            FoldedRealm x = Checks.told("writer p plain;" + Checks.word("a", 0, 1, 1, 1) + Checks.word("b", 1, 1, 1, 1));
            boolean ofSundays = List.of("write", "burn", "pass").contains(line.substring(0, line.indexOf(' ')));
            String first = line.startsWith("likes") ? "p" : line.startsWith("write ") ? "b" : "a";
            String filled = line.replaceFirst("NAME", line.startsWith("writer") || line.startsWith("word") ? "c" : first)
                .replaceFirst("NAME", "b").replaceAll("\\bN\\b", "2").replaceAll("\\bE\\b", "2").replace("KIND", "sly");
            if (ofSundays) {
                sundayLines++;
                checks.due("sundays of " + filled, Checks.tellSundays(x, filled), 0);
            } else {
                realmLines++;
                Checks.feed(x, "writer p plain;" + Checks.word("a", 0, 1, 1, 1) + Checks.word("b", 1, 1, 1, 1) + filled);
                checks.due("realm of " + filled, x.realm(), 0);
            }
        }
        checks.due("lines of a realm", realmLines, 7);
        checks.due("lines of Sundays", sundayLines, 3);
    }

    public static void main(String[] args) throws Exception {
        String readme = Files.readString(Path.of("README.md")).replace("\r\n", "\n");
        example(readme);
        faults(readme);
        calls(readme);
        lines(readme);
        checks.due("README.md says how the tests are run", readme.contains("bash .ci/run"), true);
        checks.end();
    }
}
