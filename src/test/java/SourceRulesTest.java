import java.io.IOException;
import java.nio.file.Files;
import java.nio.file.Path;
import java.util.List;
import java.util.regex.Matcher;
import java.util.regex.Pattern;

/** What of ../shared/LANGUAGE.md can be seen in the text of the class. */
public final class SourceRulesTest {
    private static final List<String> FACE = List.of("claim", "of", "asks", "tilt", "terms", "feed", "end", "row",
            "sawdust", "law", "orders", "fault", "stopped", "force", "put", "take", "pad", "pass", "undo", "settle",
            "least", "moved", "alone", "exchanged", "shares", "off", "byTurns", "weighed", "forget", "canBe", "weigh",
            "few", "compare", "days", "drawn", "image", "back", "count", "status");

    private static int count(String text, String pattern) {
        int many = 0;
        for (Matcher m = Pattern.compile(pattern).matcher(text); m.find();) {
            many++;
        }
        return many;
    }

    private static void longestMethod(String code) {
        String[] lines = code.split("\n");
        int from = -1;
        String indent = "";
        for (int i = 0; i < lines.length; i++) {
            Matcher m = Pattern.compile("^( {4}| {8})[a-zA-Z][^=;]*\\) \\{$").matcher(lines[i]);
            if (m.find() && !lines[i].contains(" class ")) {
                from = i;
                indent = m.group(1);
            }
            if (from >= 0 && lines[i].equals(indent + "}")) {
                Due.due("rule 11: a method of " + (i - from + 1) + " lines: " + lines[from],
                        i - from + 1 <= 60 ? 0 : 1, 0);
                from = -1;
            }
        }
    }

    public static void main(String[] args) throws IOException {
        String whole = Files.readString(Path.of("src/main/java/SeeSaws.java"));
        for (int i = 0; i < whole.length(); i++) {
            Due.due("a sign beyond 127 at " + i, whole.charAt(i) > 127 ? 1 : 0, 0);
        }
        String code = whole.replaceAll("(?s)/\\*.*?\\*/", "").replaceAll("//[^\n]*", "")
                .replaceAll("\"[^\"\n]*\"", "\"\"");
        for (String word : List.of("throw", "throws", "try", "catch", "synchronized", "assert", "protected",
                "package", "volatile", "native", "strictfp", "yield", "var", "Object", "equals", "hashCode")) {
            Due.due("rule 6: " + word, count(code, "\\b" + word + "\\b"), 0);
        }
        Due.due("rule 2: lambdas, references", count(code, "->|::"), 0);
        Due.due("rule 2: classes inside are static", count(code, "\\bclass\\b"), count(code, "static final class") + 1);
        Due.due("rule 4: one import", count(code, "\\bimport\\b"), count(code, "import java\\.util\\.Arrays;"));
        Due.due("rule 4: Exact", count(code, "Exact\\b"), 0);
        Due.due("rule 9: while", count(code, "\\bwhile\\b"), 0);
        Due.due("rule 9: for without a bound", count(code, "for \\([^;]*;\\s*;"), 0);
        Due.due("rule 5: static fields are final", count(code, "static (?!final)\\w+(\\[\\])* \\w+( =|;)"), 0);
        Due.due("rule 11: classes", Math.max(12, count(code, "\\bclass\\b")), 12);
        Due.due("rule 1: public members", count(code, "\\bpublic\\b"), FACE.size() + 3);
        for (String name : FACE) {
            Due.due("rule 1: methods named " + name,
                    count(code, "(int|long|boolean|void|Text|Plank) " + name + "\\("), 1);
        }
        longestMethod(code);
        Due.end();
    }
}
