import java.lang.reflect.Method;
import java.lang.reflect.Modifier;
import java.net.URL;
import java.net.URLClassLoader;
import java.nio.file.Files;
import java.nio.file.Path;
import java.util.ArrayList;
import java.util.List;
import java.util.TreeSet;
import java.util.regex.Matcher;
import java.util.regex.Pattern;
import java.util.stream.Collectors;
import java.util.stream.Stream;

/** README.md's examples compile as they stand, and each call answers what the page shows behind it. */
public final class ReadmeTest {
    private static final Pattern CALL = Pattern.compile("^((?:x|new HeavierSide\\(\\))\\.(\\w+)\\(.*?\\));\\s*(.*)$");
    private static final Pattern ANSWER = Pattern.compile("^// (-?\\d+)(?::.*)?$");
    private static final Pattern NAME_OF_ANSWER = Pattern.compile("^\\| (-\\d) \\| `([A-Z]+)` \\|.*$");
    /** Where the page gives a number's name, too, that is looked at as well. */
    private static final Pattern NAMED = Pattern.compile("^// (-\\d): (BAD|FULL|STATE|SPENT|FINDING|NONE)\\b.*$");

    private final List<String> shown = new ArrayList<>();
    private final List<Long> due = new ArrayList<>();
    private final TreeSet<String> called = new TreeSet<>();
    private final StringBuilder body = new StringBuilder();

    public static void main(String[] args) throws Exception {
        List<String> page = Files.readAllLines(Path.of("README.md"));
        ReadmeTest test = new ReadmeTest();
        test.readExamples(page);
        test.answersAreAsShown();
        test.everyCallIsShown();
        namesOfAnswers(page);
        everyTestIsListed(page);
        Due.end();
    }

    private void readExamples(List<String> page) throws Exception {
        boolean inside = false;
        for (String line : page) {
            if (line.startsWith("```")) {
                inside = line.equals("```java");
            } else if (inside) {
                readLine(line);
            }
        }
    }

    private void readLine(String line) throws Exception {
        Matcher call = CALL.matcher(line);
        if (!call.matches()) {
            body.append(line).append('\n');
            for (Matcher m = Pattern.compile("\\bx\\.(\\w+)\\(").matcher(line); m.find();) {
                called.add(m.group(1));
            }
            return;
        }
        called.add(call.group(2));
        Matcher answer = ANSWER.matcher(call.group(3));
        if (!answer.matches()) {
            Due.is("README shows an answer of " + line, 0, 1);
            return;
        }
        shown.add(call.group(1));
        due.add(Long.parseLong(answer.group(1)));
        body.append("answers[").append(due.size() - 1).append("] = ").append(call.group(1)).append(";\n");
        Matcher named = NAMED.matcher(call.group(3));
        if (named.matches()) {
            Due.is(line, constant(named.group(2)), Long.parseLong(named.group(1)));
        }
    }

    private void answersAreAsShown() throws Exception {
        Path folder = Files.createTempDirectory("readme");
        try {
            long[] got = compileAndRun(folder);
            for (int i = 0; i < got.length; i++) {
                Due.is("README, answer " + (i + 1) + ": " + shown.get(i), got[i], due.get(i));
            }
        } finally {
            try (Stream<Path> files = Files.list(folder)) {
                for (Path file : files.collect(Collectors.toList())) {
                    Files.delete(file);
                }
            }
            Files.delete(folder);
        }
    }

    private long[] compileAndRun(Path folder) throws Exception {
        Path source = folder.resolve("Shown.java");
        Files.writeString(source, "public final class Shown {\npublic static long[] run() {\nlong[] answers = new long["
                + due.size() + "];\n" + body + "return answers;\n}\n}\n");
        int status = new ProcessBuilder("javac", "-cp", System.getProperty("java.class.path"),
                "-d", folder.toString(), source.toString()).inheritIO().start().waitFor();
        Due.is("README's examples compile", status, 0);
        if (status != 0) {
            return new long[0];
        }
        try (URLClassLoader loader = new URLClassLoader(new URL[] {folder.toUri().toURL()})) {
            return (long[]) loader.loadClass("Shown").getMethod("run").invoke(null);
        }
    }

    private void everyCallIsShown() {
        for (Method m : HeavierSide.class.getDeclaredMethods()) {
            if (Modifier.isPublic(m.getModifiers())) {
                Due.is("README shows " + m.getName() + "()", called.contains(m.getName()) ? 1 : 0, 1);
            }
        }
    }

    private static void namesOfAnswers(List<String> page) throws Exception {
        int rows = 0;
        for (String line : page) {
            Matcher m = NAME_OF_ANSWER.matcher(line);
            if (m.matches()) {
                rows++;
                Due.is("README: " + m.group(2), constant(m.group(2)), Long.parseLong(m.group(1)));
            }
        }
        Due.is("README names so many answers", rows, 6);
    }

    /** Every test has its row in the table, the EdgesOf..Test ones one in common. */
    private static void everyTestIsListed(List<String> page) throws Exception {
        List<String> names;
        try (Stream<Path> files = Files.list(Path.of("src/test/java"))) {
            names = files.map(f -> f.getFileName().toString().replace(".java", ""))
                    .filter(n -> n.endsWith("Test")).sorted().collect(Collectors.toList());
        }
        for (String name : names) {
            String row = "| `" + name + "` |";
            String common = name.startsWith("EdgesOf") ? "| `EdgesOf..Test` |" : row;
            Due.is("README lists " + name,
                    page.stream().anyMatch(l -> l.startsWith(row) || l.startsWith(common)) ? 1 : 0, 1);
        }
    }

    private static int constant(String name) throws Exception {
        return HeavierSide.class.getField(name).getInt(null);
    }
}
