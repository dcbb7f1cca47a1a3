import java.io.ByteArrayOutputStream;
import java.io.IOException;
import java.io.PrintStream;
import java.net.URL;
import java.net.URLClassLoader;
import java.nio.file.Files;
import java.nio.file.Path;
import java.util.ArrayList;
import java.util.List;
import java.util.Set;
import java.util.TreeSet;
import java.util.regex.Matcher;
import java.util.regex.Pattern;
import java.util.stream.Stream;
import javax.tools.ToolProvider;

/** Holds README.md to what is so: its example, its rows of texts and marks, its table of tests. */
final class ReadmeTest {
    private static final Checks CHECKS = new Checks();
    private static final Pattern QUOTED = Pattern.compile("`([^`]*)`");

    public static void main(String[] args) throws Exception {
        List<String> lines = Files.readAllLines(Path.of("README.md"));
        example(lines);
        rows(lines);
        tests(lines);
        CHECKS.same(".ci/run can be run", true, Files.isExecutable(Path.of(".ci/run")));
        CHECKS.end();
    }

    private static void example(List<String> lines) throws Exception {
        String code = block(lines, "java");
        String told = block(lines, "text");
        CHECKS.same("there is an example with its answers", false, code.isEmpty() || told.isEmpty());
        Path place = Path.of("build", "readme");
        Files.createDirectories(place);
        Path source = Files.writeString(place.resolve("Example.java"), code);
        int failed = ToolProvider.getSystemJavaCompiler().run(null, null, null, "-d",
                place.toString(), "-cp", System.getProperty("java.class.path"), source.toString());
        CHECKS.same("compiling the example", 0, failed);
        if (failed == 0) {
            CHECKS.same("the example", told, printed(place));
        }
    }

    private static String printed(Path place) throws Exception {
        PrintStream before = System.out;
        ByteArrayOutputStream seen = new ByteArrayOutputStream();
        try (URLClassLoader loader = new URLClassLoader(new URL[] {place.toUri().toURL()})) {
            System.setOut(new PrintStream(seen, true));
            loader.loadClass("Example").getMethod("main", String[].class)
                    .invoke(null, (Object) new String[0]);
        } finally {
            System.setOut(before);
        }
        return seen.toString().replace(System.lineSeparator(), "\n");
    }

    /** Each row of texts: the rules are told to a new object, which expands the text. */
    private static void rows(List<String> lines) {
        List<String> rows = table(lines, "| rules | text | fuel |");
        CHECKS.same("there are rows of texts", true, rows.size() > 5);
        for (String row : rows) {
            String[] cells = row.split("\\|");
            CHECKS.same("cells of " + row, 5, cells.length);
            String text = String.join("", quoted(cells[2]));
            CHECKS.expands(text, Integer.parseInt(cells[3].trim()), cells[4].trim(),
                    quoted(cells[1]).toArray(new String[0]));
        }
    }

    private static void tests(List<String> lines) throws IOException {
        Set<String> told = new TreeSet<>();
        for (String row : table(lines, "| test |")) {
            told.addAll(quoted(row.split("\\|")[1]));
        }
        Set<String> there = new TreeSet<>();
        try (Stream<Path> files = Files.list(Path.of("src", "test", "java"))) {
            files.map(file -> file.getFileName().toString())
                    .filter(name -> name.endsWith("Test.java"))
                    .forEach(name -> there.add(name.replace(".java", "")));
        }
        CHECKS.same("the table of tests", there, told);
    }

    /** The lines of the first block of a language. */
    private static String block(List<String> lines, String language) {
        StringBuilder block = new StringBuilder();
        int first = lines.indexOf("```" + language) + 1;
        for (int i = first; first > 0 && i < lines.size() && !lines.get(i).equals("```"); i++) {
            block.append(lines.get(i)).append('\n');
        }
        return block.toString();
    }

    /** The rows of a table, behind its head and the line under that. */
    private static List<String> table(List<String> lines, String head) {
        List<String> rows = new ArrayList<>();
        int first = 0;
        while (first < lines.size() && !lines.get(first).startsWith(head)) {
            first++;
        }
        for (int i = first + 2; i < lines.size() && lines.get(i).startsWith("|"); i++) {
            rows.add(lines.get(i));
        }
        return rows;
    }

    private static List<String> quoted(String cell) {
        List<String> texts = new ArrayList<>();
        Matcher matcher = QUOTED.matcher(cell);
        while (matcher.find()) {
            texts.add(matcher.group(1));
        }
        return texts;
    }
}
