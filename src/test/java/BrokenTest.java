import java.io.ByteArrayOutputStream;
import java.io.OutputStream;
import java.io.PrintStream;
import java.lang.reflect.Method;
import java.net.MalformedURLException;
import java.net.URL;
import java.net.URLClassLoader;
import java.nio.file.Files;
import java.nio.file.Path;
import java.util.ArrayList;
import java.util.List;
import java.util.regex.Matcher;
import java.util.regex.Pattern;
import javax.tools.JavaCompiler;
import javax.tools.ToolProvider;

/** Every test of a sentence fails, if the class is changed so that the sentence is broken. */
final class BrokenTest {
    private static final Path SOURCE = Path.of("src/main/java/RowPages.java");
    private static final Path FOLDER = Path.of("build/broken");

    private BrokenTest() {
    }

    public static void main(String[] args) throws Exception {
        String source = Files.readString(SOURCE);
        int number = 0;
        for (Method test : Boundaries.tests()) {
            Break[] breaks = test.getAnnotationsByType(Break.class);
            Check.same(Boundaries.name(test) + " tells what would break its words", breaks.length > 0, true);
            for (Break change : breaks) {
                number++;
                String what = Boundaries.name(test) + ", '" + change.from() + "' changed to '" + change.to() + "'";
                Check.same(what, outcome(test, change, source, FOLDER.resolve("" + number)), "fails");
            }
        }
        Check.finish();
    }

    private static String outcome(Method test, Break change, String source, Path folder) throws Exception {
        Matcher place = pattern(change.from()).matcher(source);
        if (!place.find()) {
            return "the class has no such text: keep the change in step with it";
        }
        String changed = source.substring(0, place.start()) + change.to() + source.substring(place.end());
        if (place.find()) {
            return "the class has such text more than once";
        }
        String errors = compile(changed, folder);
        return errors.isEmpty() ? outcomeWith(folder, test) : "does not compile: " + errors;
    }

    private static Pattern pattern(String text) {
        List<String> words = new ArrayList<>();
        for (String word : text.trim().split("\\s+")) {
            words.add(Pattern.quote(word));
        }
        return Pattern.compile(String.join("\\s+", words));
    }

    private static String compile(String source, Path folder) throws Exception {
        Files.createDirectories(folder);
        Path file = Files.writeString(folder.resolve("RowPages.java"), source);
        ByteArrayOutputStream errors = new ByteArrayOutputStream();
        JavaCompiler compiler = ToolProvider.getSystemJavaCompiler();
        int result = compiler.run(null, null, errors, "-nowarn", "-proc:none", "-d", folder.toString(), file.toString());
        return result == 0 ? "" : errors.toString();
    }

    /** Runs the test with all classes loaded anew, the class itself from the folder. */
    private static String outcomeWith(Path folder, Method test) throws Exception {
        PrintStream shown = System.out;
        try (URLClassLoader loader = new URLClassLoader(classPath(folder), ClassLoader.getPlatformClassLoader())) {
            System.setOut(new PrintStream(OutputStream.nullOutputStream()));
            Method again = loader.loadClass(test.getDeclaringClass().getName()).getDeclaredMethod(test.getName());
            Method isAllRight = loader.loadClass("Check").getDeclaredMethod("isAllRight");
            again.setAccessible(true);
            isAllRight.setAccessible(true);
            boolean fails = !Boundaries.run(again).equals("nothing") || !(boolean) isAllRight.invoke(null);
            return fails ? "fails" : "does not fail";
        } finally {
            System.setOut(shown);
        }
    }

    private static URL[] classPath(Path folder) throws MalformedURLException {
        Path own = Path.of(System.getProperty("java.class.path"));
        return new URL[] {folder.toUri().toURL(), own.toUri().toURL()};
    }
}
