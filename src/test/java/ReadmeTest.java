import java.nio.file.Files;
import java.nio.file.Path;
import java.util.List;
import java.util.regex.Matcher;
import java.util.regex.Pattern;
import javax.tools.ToolProvider;

/**
 * The run of calls that README.md tells: it compiles, and each call answers what stands behind
 * it. It is read in the folder that the test is started in, as .ci/run does.
 */
public final class ReadmeTest {
    /** A call, perhaps kept by a name, and the answer behind it, perhaps with more words. */
    private static final Pattern LINE = Pattern.compile(
            "(int (\\w+) = )?(press\\.\\w+\\(.*\\)); +// "
            + "('.'|true|false|[\\d.]*\\d|throws \\w+)\\b?.*");

    public static void main(String[] args) throws Exception {
        String program = programOf(Files.readAllLines(Path.of("README.md")));
        // The folder of this test's own classes, so that it is found like them.
        String classes = System.getProperty("java.class.path");
        Path file = Files.writeString(Path.of(classes, "Shop.java"), program);
        int exit = ToolProvider.getSystemJavaCompiler().run(null, null, null,
                "-cp", classes, "-d", classes, file.toString());
        Due.is("README.md compiles", 0, () -> exit);
        if (exit == 0) {
            Class.forName("Shop").getMethod("main", String[].class)
                    .invoke(null, (Object) new String[0]);
        }
        Due.end();
    }

    private static String programOf(List<String> readme) {
        StringBuilder program = new StringBuilder();
        program.append("public final class Shop {\n    public static void main(String[] args) {\n");
        boolean isExample = false;
        for (String line : readme) {
            if (line.startsWith("```")) {
                isExample = line.equals("```java");
            } else if (isExample) {
                program.append(statementOf(line)).append('\n');
            }
        }
        return program.append("    }\n}\n").toString();
    }

    private static String statementOf(String line) {
        Matcher parts = LINE.matcher(line);
        if (!parts.matches()) {
            boolean isPlain = line.isEmpty() || line.startsWith("//")
                    || line.equals("RiddlePress press = new RiddlePress();");
            Due.is("README.md tells an answer: " + line, true, () -> isPlain);
            return line;
        }
        String name = parts.group(2);
        String call = parts.group(3);
        String due = parts.group(4);
        if (due.startsWith("throws ")) {
            return dueText(call, due.substring("throws ".length()) + ".class", call);
        }
        String told = "\"" + due.replace("'", "") + "\"";
        if (name == null) {
            return dueText(call, told, "String.valueOf(" + call + ")");
        }
        return "int " + name + " = " + call + "; "
                + dueText(call, told, "String.valueOf(" + name + ")");
    }

    private static String dueText(String what, String due, String answer) {
        return "Due.is(\"" + what + "\", " + due + ", () -> " + answer + ");";
    }
}
