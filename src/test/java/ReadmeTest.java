import java.io.ByteArrayOutputStream;
import java.io.File;
import java.lang.reflect.Method;
import java.lang.reflect.Modifier;
import java.net.URL;
import java.net.URLClassLoader;
import java.nio.file.Files;
import java.nio.file.Path;
import java.util.regex.Matcher;
import java.util.regex.Pattern;
import javax.tools.ToolProvider;

/** What README.md says that its example answers is what it answers, and it knows every call and every test. */
final class ReadmeTest {
    private static final Path FOLDER = Path.of("build/readme");
    private static final Pattern ANSWER = Pattern.compile("(store\\.\\w+\\(.*\\));\\s+// (-?\\d+|true|false)\\b.*");

    private ReadmeTest() {
    }

    public static void main(String[] args) throws Exception {
        String readme = Files.readString(Path.of("README.md"));
        example(readme);
        for (Method method : RowPages.class.getDeclaredMethods()) {
            if (Modifier.isPublic(method.getModifiers())) {
                Check.same("README.md tells of " + method.getName(), readme.contains("`" + method.getName() + "("), true);
            }
        }
        for (String name : new File("src/test/java").list()) {
            if (name.endsWith("Test.java")) {
                String test = name.replace(".java", "");
                Check.same("README.md tells of " + test, readme.contains("`" + test + "`"), true);
            }
        }
        Check.finish();
    }

    private static void example(String readme) throws Exception {
        Matcher block = Pattern.compile("```java\n(.*?)```", Pattern.DOTALL).matcher(readme);
        Check.same("README.md has an example", block.find(), true);
        StringBuilder body = new StringBuilder();
        int answers = 0;
        for (String line : block.group(1).split("\n")) {
            Matcher answer = ANSWER.matcher(line.trim());
            if (answer.matches()) {
                answers++;
                body.append("tell(\"").append(answer.group(2)).append("\", ").append(answer.group(1)).append(");\n");
            } else {
                body.append(line).append('\n');
            }
        }
        Check.same("its answers are told", answers > 0, true);
        Check.same("the example", outcome(body.toString()), "");
    }

    /** What the example answers otherwise than it says, or why it does not compile. */
    private static String outcome(String body) throws Exception {
        String source = "public class Example {\n"
                + "    static final StringBuilder WRONG = new StringBuilder();\n"
                + "    static void tell(String due, Object got) {\n"
                + "        if (!due.equals(String.valueOf(got))) { WRONG.append(\"due \" + due + \", got \" + got + \"; \"); }\n"
                + "    }\n"
                + "    public static String run() {\n" + body + "        return WRONG.toString();\n    }\n}\n";
        Files.createDirectories(FOLDER);
        Path file = Files.writeString(FOLDER.resolve("Example.java"), source);
        ByteArrayOutputStream errors = new ByteArrayOutputStream();
        String own = System.getProperty("java.class.path");
        int result = ToolProvider.getSystemJavaCompiler().run(null, null, errors, "-nowarn", "-proc:none",
                "-cp", own, "-d", FOLDER.toString(), file.toString());
        if (result != 0) {
            return "does not compile: " + errors;
        }
        try (URLClassLoader loader = new URLClassLoader(new URL[] {FOLDER.toUri().toURL()})) {
            return (String) loader.loadClass("Example").getMethod("run").invoke(null);
        }
    }
}
