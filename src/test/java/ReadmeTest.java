import java.io.ByteArrayOutputStream;
import java.io.IOException;
import java.io.PrintStream;
import java.lang.reflect.Method;
import java.lang.reflect.Modifier;
import java.net.URL;
import java.net.URLClassLoader;
import java.nio.charset.StandardCharsets;
import java.nio.file.Files;
import java.nio.file.Path;
import java.util.Comparator;
import java.util.List;
import java.util.regex.Matcher;
import java.util.regex.Pattern;
import java.util.stream.Stream;
import javax.tools.JavaCompiler;
import javax.tools.ToolProvider;

/** README.md says how to use the class and how to run its tests; what it says is so. */
public final class ReadmeTest {
    private static final Due due = new Due();

    public static void main(String[] args) throws Exception {
        String readme = Files.readString(Path.of("README.md"));
        programPrintsWhatItSays(readme);
        namesEveryCall(readme);
        boundsAreThoseOfTheClass(readme);
        namesEveryOrder(readme);
        namesEveryTest(readme);
        due.holds("README.md names .ci/run", readme.contains("\n    .ci/run\n"));
        due.end();
    }

    private static String block(String readme, String kind) {
        Matcher m = Pattern.compile("```" + kind + "\n(.*?)```", Pattern.DOTALL).matcher(readme);
        boolean found = m.find();
        due.holds("README.md has a block of " + kind, found);
        return found ? m.group(1) : "";
    }

    private static void programPrintsWhatItSays(String readme) throws Exception {
        Path made = Files.createTempDirectory("readme");
        try {
            Path source = made.resolve("Day.java");
            Files.writeString(source, block(readme, "java"));
            JavaCompiler javac = ToolProvider.getSystemJavaCompiler();
            int wrong = javac == null ? 1 : javac.run(null, null, null, "-cp", System.getProperty("java.class.path"),
                "-d", made.toString(), source.toString());
            due.is("javac of README.md's program", wrong, 0);
            if (wrong == 0) {
                String printed = printedBy(made, "Day");
                due.holds("README.md's program prints what it says, and not\n" + printed,
                    printed.equals(block(readme, "text")));
            }
        } finally {
            removeAll(made);
        }
    }

    private static String printedBy(Path classes, String name) throws Exception {
        PrintStream before = System.out;
        ByteArrayOutputStream bytes = new ByteArrayOutputStream();
        try (URLClassLoader loader = new URLClassLoader(new URL[] {classes.toUri().toURL()})) {
            System.setOut(new PrintStream(bytes, true, StandardCharsets.UTF_8));
            loader.loadClass(name).getMethod("main", String[].class).invoke(null, (Object) new String[0]);
        } finally {
            System.setOut(before);
        }
        return bytes.toString(StandardCharsets.UTF_8).replace(System.lineSeparator(), "\n");
    }

    private static void removeAll(Path directory) throws IOException {
        List<Path> paths;
        try (Stream<Path> walked = Files.walk(directory)) {
            paths = walked.sorted(Comparator.reverseOrder()).toList();
        }
        for (Path path : paths) {
            Files.delete(path);
        }
    }

    private static void namesEveryCall(String readme) {
        for (Method m : StarSenders.class.getDeclaredMethods()) {
            if (Modifier.isPublic(m.getModifiers())) {
                String parameters = m.getParameterCount() == 0 ? "" : "\\w+(, \\w+){" + (m.getParameterCount() - 1) + "}";
                Pattern row = Pattern.compile("^\\| `" + m.getName() + "\\(" + parameters + "\\)` \\|", Pattern.MULTILINE);
                due.holds("README.md has a row for " + m.getName() + "()", row.matcher(readme).find());
            }
        }
    }

    /** In the rows of sets, gate and sender: '(what: least .. most)', or '(what: least, most)' of two numbers. */
    private static void boundsAreThoseOfTheClass(String readme) {
        int found = 0;
        Matcher rows = Pattern.compile("^\\| `(sets|gate|sender)\\(.*$", Pattern.MULTILINE).matcher(readme);
        while (rows.find()) {
            Matcher bounds = Pattern.compile("\\((\\d): (\\d+)(?: \\.\\. |, )(\\d+)\\)").matcher(rows.group());
            while (bounds.find()) {
                int what = Integer.parseInt(bounds.group(1));
                int least = Integer.parseInt(bounds.group(2));
                int most = Integer.parseInt(bounds.group(3));
                String call = rows.group(1) + " of " + what + " at the bounds of README.md: ";
                due.holds(call + least, isLetBy(rows.group(1), what, least) && !isLetBy(rows.group(1), what, least - 1));
                due.holds(call + most, isLetBy(rows.group(1), what, most) && !isLetBy(rows.group(1), what, most + 1));
                found++;
            }
        }
        due.is("bounds in README.md's rows of sets, gate and sender", found, 3 + 2 + 4);
    }

    private static boolean isLetBy(String call, int what, int v) {
        StarSenders x = new StarSenders();
        int answer = call.equals("sets") ? x.sets(what, v) : call.equals("gate") ? x.gate(0, what, v) : x.sender(0, what, v);
        return answer != StarSenders.BAD;
    }

    private static void namesEveryOrder(String readme) {
        for (String order : new String[] {"s i", "r i", "z i", "+ k", "g i j k", "b j k", "l j k"}) {
            due.holds("README.md has a row for the order " + order, readme.contains("\n| `" + order + ";` |"));
        }
    }

    private static void namesEveryTest(String readme) throws IOException {
        List<String> names;
        try (Stream<Path> files = Files.list(Path.of("src/test/java"))) {
            names = files.map(f -> f.getFileName().toString()).filter(f -> f.endsWith("Test.java"))
                .map(f -> f.substring(0, f.length() - ".java".length())).sorted().toList();
        }
        for (String name : names) {
            due.holds("README.md has a row for " + name, readme.contains("\n| " + name + " |"));
        }
        Matcher rows = Pattern.compile("^\\| (\\w+Test) \\|", Pattern.MULTILINE).matcher(readme);
        while (rows.find()) {
            due.holds("there is a test " + rows.group(1), names.contains(rows.group(1)));
        }
    }
}
