import java.lang.reflect.Method;
import java.nio.file.Files;
import java.nio.file.Path;
import java.util.regex.Matcher;
import java.util.regex.Pattern;
import javax.tools.JavaCompiler;
import javax.tools.ToolProvider;

/** README.md's code, as it stands there, compiles, and each call answers the number behind it. */
public final class ReadmeTest {
    private static final Pattern BLOCK = Pattern.compile("(?s)```java\n(.*?)```");
    private static final Pattern CALL = Pattern.compile("([a-z]\\.\\w+\\(.*\\));\\s*//\\s*(-?\\d+).*");
    private static final String NAME = "ReadmeRun";

    private static int calls = 0;

    /** A call with a number behind it becomes an answer that is due. */
    private static String checked(String line) {
        Matcher m = CALL.matcher(line);
        if (!m.matches()) {
            return line;
        }
        calls++;
        return "Due.due(\"README: " + m.group(1) + "\", " + m.group(1) + ", " + m.group(2) + "L);";
    }

    private static String program(String readme) {
        StringBuilder methods = new StringBuilder();
        StringBuilder body = new StringBuilder();
        for (Matcher m = BLOCK.matcher(readme); m.find();) {
            if (m.group(1).startsWith("static ")) {
                methods.append(m.group(1));
            } else {
                m.group(1).lines().forEach(line -> body.append(checked(line)).append('\n'));
            }
        }
        return "final class " + NAME + " {\n" + methods + "static void run() {\n" + body + "}\n}\n";
    }

    /** It is compiled to where the tests' own classes are, so that it can use Due. */
    private static void run(String program) throws Exception {
        Path classes = Path.of(ReadmeTest.class.getProtectionDomain().getCodeSource().getLocation().toURI());
        Path source = Files.writeString(classes.resolve(NAME + ".java"), program);
        JavaCompiler compiler = ToolProvider.getSystemJavaCompiler();
        int came = compiler == null ? -1 : compiler.run(null, null, null, "-proc:none", "-cp", classes.toString(),
                "-d", classes.toString(), source.toString());
        Due.due("README's code compiles", came, 0);
        if (came == 0) {
            Method method = Class.forName(NAME).getDeclaredMethod("run");
            method.setAccessible(true);
            method.invoke(null);
        }
    }

    public static void main(String[] args) throws Exception {
        String readme = Files.readString(Path.of("README.md"));
        String program = program(readme);
        Due.due("README has calls to check", calls > 60 ? 1 : 0, 1);
        run(program);
        Due.end();
    }
}
