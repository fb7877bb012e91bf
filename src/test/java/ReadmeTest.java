import java.io.IOException;
import java.lang.reflect.Method;
import java.lang.reflect.Modifier;
import java.nio.file.Files;
import java.nio.file.Path;
import java.util.ArrayList;
import java.util.List;
import java.util.Map;
import java.util.regex.Matcher;
import java.util.regex.Pattern;

/** README.md: its lines of Java compile, and each call answers what stands behind it. */
public final class ReadmeTest {
    private static final Pattern ANSWER = Pattern.compile("(?s)(.*);\\s*// (-?\\d+|true|false)\\b.*");

    public static void main(String[] args) throws IOException, ReflectiveOperationException {
        String readme = Files.readString(Path.of("README.md"));
        List<String> blocks = blocks(readme);
        Check.is("blocks of Java in README.md", blocks.size(), 2);
        if (blocks.size() == 2) {
            run(blocks.get(0), blocks.get(1));
        }
        everyCall(readme);
        everyTest(readme);
        Check.end();
    }

    private static List<String> blocks(String readme) {
        List<String> found = new ArrayList<>();
        Matcher m = Pattern.compile("(?s)```java\\n(.*?)```").matcher(readme);
        while (m.find()) {
            found.add(m.group(1));
        }
        return found;
    }

    private static void run(String helper, String lines) throws ReflectiveOperationException {
        List<String> calls = new ArrayList<>();
        List<String> due = new ArrayList<>();
        StringBuilder source = new StringBuilder("public final class Readme {\n").append(helper);
        source.append("public static void run(java.util.List<Object> answers) {\n");
        for (String statement : statements(lines)) {
            Matcher m = ANSWER.matcher(statement);
            if (m.matches()) {
                calls.add(m.group(1).trim());
                due.add(m.group(2));
                source.append("answers.add(").append(m.group(1)).append(");\n");
            } else {
                source.append(statement).append('\n');
            }
        }
        source.append("}\n}\n");
        Check.is("many answers in README.md", due.size() >= 25, true);
        Map<String, byte[]> classes = BrokenProgram.compiled("Readme", source.toString());
        Check.is("README.md compiles", classes.isEmpty(), false);
        if (!classes.isEmpty()) {
            List<Object> answers = new ArrayList<>();
            new BrokenProgram(classes).loadClass("Readme").getMethod("run", List.class).invoke(null, answers);
            for (int i = 0; i < due.size(); i++) {
                String got = answers.get(i).toString();
                Check.is("README.md: " + calls.get(i) + " is " + got + ", not " + due.get(i), got.equals(due.get(i)), true);
            }
        }
    }

    /** The block by its statements, each with the comment behind it. */
    private static List<String> statements(String lines) {
        List<String> found = new ArrayList<>();
        StringBuilder open = new StringBuilder();
        for (String line : lines.split("\n")) {
            open.append(line).append('\n');
            if (line.replaceAll("//.*", "").trim().endsWith(";")) {
                found.add(open.toString().trim());
                open.setLength(0);
            }
        }
        Check.is("a statement without its end: " + open, open.toString().isBlank(), true);
        return found;
    }

    private static void everyCall(String readme) {
        for (Method method : EndingTown.class.getDeclaredMethods()) {
            if (Modifier.isPublic(method.getModifiers())) {
                String call = "`" + method.getName() + "(";
                Check.is("README.md tells " + method.getName(), readme.contains(call), true);
            }
        }
    }

    private static void everyTest(String readme) throws IOException {
        try (var files = Files.list(Path.of("src/test/java"))) {
            for (Path file : files.toList()) {
                String name = file.getFileName().toString().replace(".java", "");
                if (name.endsWith("Test") || name.endsWith("Edges") && !name.equals("Edges")) {
                    Check.is("README.md tells " + name, readme.contains("`" + name + "`"), true);
                }
            }
        }
        Check.is("README.md tells .ci/run", readme.contains("`.ci/run`"), true);
    }
}
