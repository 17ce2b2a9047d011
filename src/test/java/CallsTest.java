import java.nio.file.Files;
import java.nio.file.Path;
import java.util.HashMap;
import java.util.Map;
import java.util.TreeMap;
import java.util.TreeSet;
import java.util.regex.Matcher;
import java.util.regex.Pattern;

/**
 * Rule 11 of ../shared/LANGUAGE.md: calls that are no recursion go at most eight deep. Methods that call one another
 * in a ring stand for one; methods of the same name are taken for one, which can only make it deeper.
 */
public final class CallsTest {
    private static final Pattern HEAD = Pattern.compile("(?m)^( {4}| {8})[a-zA-Z][\\w\\[\\] ]* (\\w+)\\([^=;\n]*\\) \\{$");
    private static final Pattern CALL = Pattern.compile("\\b(\\w+)\\(");
    private static final int DEEPEST = 8;

    private final Map<String, TreeSet<String>> calls = new TreeMap<>();
    private final Map<String, TreeSet<String>> reached = new TreeMap<>();
    private final Map<String, Integer> depths = new HashMap<>();

    private CallsTest(String code) {
        for (Matcher head = HEAD.matcher(code); head.find();) {
            int end = code.indexOf("\n" + head.group(1) + "}", head.end());
            TreeSet<String> called = calls.computeIfAbsent(head.group(2), name -> new TreeSet<>());
            for (Matcher call = CALL.matcher(code.substring(head.end(), end)); call.find();) {
                called.add(call.group(1));
            }
        }
        for (TreeSet<String> called : calls.values()) {
            called.retainAll(calls.keySet());
        }
        for (String name : calls.keySet()) {
            TreeSet<String> from = new TreeSet<>();
            reach(name, from);
            reached.put(name, from);
        }
    }

    private void reach(String name, TreeSet<String> from) {
        for (String called : calls.get(name)) {
            if (from.add(called)) {
                reach(called, from);
            }
        }
    }

    private boolean inOneRing(String a, String b) {
        return a.equals(b) || (reached.get(a).contains(b) && reached.get(b).contains(a));
    }

    private int depth(String name) {
        Integer known = depths.get(name);
        if (known != null) {
            return known;
        }
        int below = 0;
        for (String member : calls.keySet()) {
            if (inOneRing(name, member)) {
                for (String called : calls.get(member)) {
                    if (!inOneRing(name, called)) {
                        below = Math.max(below, depth(called));
                    }
                }
            }
        }
        depths.put(name, below + 1);
        return below + 1;
    }

    public static void main(String[] args) throws Exception {
        String whole = Files.readString(Path.of("src/main/java/SeeSaws.java"));
        CallsTest test = new CallsTest(whole.replaceAll("(?s)/\\*.*?\\*/", "").replaceAll("//[^\n]*", ""));
        Due.due("all methods are seen", test.calls.size() > 100 ? 1 : 0, 1);
        int deepest = 0;
        for (String name : test.calls.keySet()) {
            int depth = test.depth(name);
            deepest = Math.max(deepest, depth);
            Due.due("rule 11: " + name + " goes " + depth + " deep", depth <= DEEPEST ? 1 : 0, 1);
        }
        System.out.print(deepest + " deep, ");
        Due.end();
    }
}
