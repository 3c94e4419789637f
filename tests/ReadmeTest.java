import java.io.ByteArrayOutputStream;
import java.io.IOException;
import java.io.PrintStream;
import java.net.URL;
import java.net.URLClassLoader;
import java.nio.file.DirectoryStream;
import java.nio.file.Files;
import java.nio.file.Path;
import java.util.List;
import java.util.TreeSet;
import java.util.regex.Matcher;
import java.util.regex.Pattern;
import javax.tools.JavaCompiler;
import javax.tools.ToolProvider;

/** What README.md shows is so when it is run: its example's answers, its tables, its command for more runs. */
public final class ReadmeTest {
    private static final Checks C = new Checks();
    private static final Path USE = Path.of("build/use");

    public static void main(String[] args) throws IOException, ReflectiveOperationException {
        String page = Files.readString(Path.of("README.md"));
        String example = example(page);
        List<String> printed = printedBy(example);
        List<String> told = toldIn(example);
        C.due("lines that the example prints", printed.size(), told.size());
        C.due("the example prints something", told.size() > 30, true);
        for (int i = 0; i < told.size() && i < printed.size(); i++) {
            same("line " + (i + 1) + " of the example", told.get(i), printed.get(i));
        }
        names("classes", found(page, "(?m)^\\| `([A-Z].*?) \\|", "`?([A-Z][A-Za-z]*)`?", true), classes());
        names("tests", found(page, "(?m)^\\| `([A-Z].*?) \\|", "`?([A-Z][A-Za-z]*)`?", false), tests());
        C.due("its command for more runs", page.contains("`java -cp build/own ModelTest 3000 1000`"), true);
        C.end("ReadmeTest");
    }

    private static void same(String what, String told, String got) {
        C.due(what + ": told " + told + ", printed " + got, told.equals(got), true);
    }

    private static void names(String what, TreeSet<String> told, TreeSet<String> there) {
        C.due(what + " told " + told + ", there are " + there, told.equals(there), true);
    }

    private static String example(String page) {
        Matcher m = Pattern.compile("(?s)```java\n(.*?)```").matcher(page);
        return m.find() ? m.group(1) : "";
    }

    /** The answers behind the lines that print. */
    private static List<String> toldIn(String example) {
        return example.lines().filter(line -> line.matches(".*; // \\S.*")).map(line -> line.replaceAll(".*; // ", ""))
                .toList();
    }

    private static List<String> printedBy(String example) throws IOException, ReflectiveOperationException {
        Files.createDirectories(USE);
        Path source = USE.resolve("Example.java");
        Files.writeString(source, example);
        JavaCompiler compiler = ToolProvider.getSystemJavaCompiler();
        int rc = compiler.run(null, null, null, "-d", USE.toString(), "src/main/java/DebtStreet.java", source.toString());
        C.due("javac of the example", rc, 0);
        ByteArrayOutputStream kept = new ByteArrayOutputStream();
        PrintStream out = System.out;
        try (URLClassLoader loader = new URLClassLoader(new URL[] {USE.toUri().toURL()}, null)) {
            System.setOut(new PrintStream(kept, true));
            loader.loadClass("Example").getMethod("main", String[].class).invoke(null, (Object) new String[0]);
        } finally {
            System.setOut(out);
        }
        return kept.toString().lines().toList();
    }

    /** The names in the first columns of the page's tables: of tests, or of classes. */
    private static TreeSet<String> found(String page, String row, String name, boolean classes) {
        TreeSet<String> all = new TreeSet<>();
        Matcher rows = Pattern.compile(row).matcher(page);
        while (rows.find()) {
            Matcher m = Pattern.compile(name).matcher(rows.group(1));
            while (m.find()) {
                if (m.group(1).endsWith("Test") != classes) {
                    all.add(m.group(1));
                }
            }
        }
        return all;
    }

    private static TreeSet<String> classes() throws IOException {
        TreeSet<String> all = new TreeSet<>();
        String code = Files.readString(Path.of("src/main/java/DebtStreet.java"));
        Matcher m = Pattern.compile("(?m)^ *(?:public|private static) final class ([A-Za-z]+)").matcher(code);
        while (m.find()) {
            all.add(m.group(1));
        }
        return all;
    }

    private static TreeSet<String> tests() throws IOException {
        TreeSet<String> all = new TreeSet<>();
        try (DirectoryStream<Path> files = Files.newDirectoryStream(Path.of("tests"), "*Test.java")) {
            for (Path file : files) {
                all.add(file.getFileName().toString().replace(".java", ""));
            }
        }
        return all;
    }
}
