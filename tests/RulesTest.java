import java.io.IOException;
import java.nio.file.Files;
import java.nio.file.Path;
import java.util.List;
import java.util.regex.Matcher;
import java.util.regex.Pattern;

/** Rules of LANGUAGE.md that can be seen in the source's own lines. */
public final class RulesTest {
    private static final Checks C = new Checks();
    private static final Pattern METHOD =
            Pattern.compile(" *(?:(?:public|private|static|final) )*[A-Za-z\\[\\]]+ [a-zA-Z]+\\(.*\\{|.*throws .*\\{");

    public static void main(String[] args) throws IOException {
        Path source = Path.of("src/main/java/DebtStreet.java");
        List<String> lines = Files.readAllLines(source);
        String all = Files.readString(source);
        for (char c : all.toCharArray()) {
            if (c > 126) {
                C.due("a sign above 126", c, 0);
            }
        }
        words(all.replaceAll("//[^\n]*|/\\*\\*(?s:.*?)\\*/", "").replaceAll("\"[^\"\n]*\"", "\"\""));
        lengths(lines);
        C.due("classes", count(all, "\\bclass [A-Z]"), 12);
        C.end("RulesTest");
    }

    private static void words(String code) {
        String[] never = {"->", "::", "\\btry\\b", "\\bcatch\\b", "\\bfinally\\b", "\\bsynchronized\\b", "\\bassert\\b",
            "\\binstanceof\\b", "\\bpackage\\b", "\\bprotected\\b", "\\bstatic \\{", "\\bequals\\(", "\\bhashCode\\b",
            "\\btoString\\b", "\\bSystem\\.(?!arraycopy)", "Exact\\(", "\\bThread\\b", "\\bRandom\\b", "\\bObject\\b",
            "\"\" *\\+|\\+ *\"\"", "\\bArrays\\.(?!fill|copyOf)", "\\bdouble\\b", "\\bfloat\\b"};
        for (String word : never) {
            C.due("in the code: " + word, count(code, word), 0);
        }
        C.due("imports", count(code, "\\bimport "), 2);
        C.due("only these are thrown", count(code, "\\bthrow\\b"), count(code, "\\bthrow new "
                + "(IllegalStateException|IllegalArgumentException|IndexOutOfBoundsException|NoSuchElementException)\\("));
        C.due("static fields are final", count(code, "\\bstatic (?!final)"), 0);
        C.due("a private method under a public name", count(code, "private [A-Za-z\\[\\]]+ (feed|street|fault|house"
                + "|household|pays|grows|takes|swap|gift|plant|payOff|quarters|undo|judge|perform|year|debtIn|cashIn"
                + "|ruinIn|lost|clear|seaIn|burden|heaviest|paid|order|orders|bestSwap|wouldSwap|bestHouse|hedges"
                + "|bestHedge|saves|leastLimit|worth|pillar|seen|hidden|look|tray|write|copy|image|restore|count)\\("), 0);
    }

    private static int count(String code, String word) {
        Matcher m = Pattern.compile(word).matcher(code);
        int many = 0;
        while (m.find()) {
            many++;
        }
        return many;
    }

    /** Methods of some sixty lines, told by their indents, and of seven parameters. */
    private static void lengths(List<String> lines) {
        for (int i = 0; i < lines.size(); i++) {
            String line = lines.get(i);
            if (!METHOD.matcher(line).matches() || line.contains(" class ") || line.contains(" new ")) {
                continue;
            }
            String indent = line.replaceAll("\\S.*", "");
            int end = i + 1;
            while (!lines.get(end).equals((line.contains("(") ? indent : indent.substring(8)) + "}")) {
                end++;
            }
            C.due("a method of at most 60 lines: " + line, end - i <= 60, true);
            C.due("at most seven parameters: " + line, line.split(",").length <= 7, true);
        }
    }
}
