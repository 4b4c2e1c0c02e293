import java.lang.reflect.Constructor;
import java.lang.reflect.Field;
import java.lang.reflect.Method;
import java.lang.reflect.Modifier;
import java.nio.file.Files;
import java.nio.file.Path;
import java.util.ArrayList;
import java.util.Arrays;
import java.util.Collections;
import java.util.HashSet;
import java.util.List;
import java.util.Set;
import java.util.regex.Matcher;
import java.util.regex.Pattern;

/** The face as the document has it, and those rules of LANGUAGE.md that a test can see. */
final class FaceTest {
    private static final String[] FACE = {
        "int begin() throws IllegalStateException",
        "int end(int,boolean) throws IndexOutOfBoundsException,IllegalStateException",
        "int jump(int) throws IllegalArgumentException,IllegalStateException",
        "int stamp(int) throws IndexOutOfBoundsException",
        "boolean isBefore(int,int) throws IllegalArgumentException",
        "int read(int,int) throws IndexOutOfBoundsException,IllegalArgumentException,IllegalStateException",
        "int readPlain(int,int) throws IndexOutOfBoundsException,IllegalArgumentException,IllegalStateException",
        "int write(int,int,int) throws IndexOutOfBoundsException,IllegalArgumentException,IllegalStateException",
        "boolean delete(int,int) throws IndexOutOfBoundsException,IllegalArgumentException,IllegalStateException",
        "int clean(int) throws IllegalArgumentException",
        "int setFreezing(int) throws IllegalArgumentException",
        "boolean isMapped(int) throws IllegalArgumentException",
        "boolean isWhole(int) throws IllegalArgumentException",
        "int slot(int,int) throws IllegalArgumentException",
        "int entries(int) throws IllegalArgumentException",
        "float fullness(int) throws IllegalArgumentException",
        "int oldest()",
    };

    private static final Path SOURCE = Path.of("src/main/java/RowPages.java");

    private FaceTest() {
    }

    public static void main(String[] args) throws Exception {
        face();
        members(RowPages.class);
        for (Class<?> inside : RowPages.class.getDeclaredClasses()) {
            members(inside);
            Check.same("rule 1: a class inside is static", Modifier.isStatic(inside.getModifiers()), true);
            Check.same("rule 1: and not public", Modifier.isPublic(inside.getModifiers()), false);
        }
        Check.same("rule 11: some twelve classes", RowPages.class.getDeclaredClasses().length + 1 <= 12, true);
        source();
        library();
        news();
        methodLengths();
        headings();
        documentedFace();
        Check.finish();
    }

    private static void face() {
        Class<?> type = RowPages.class;
        Check.same("rule 1: final", Modifier.isFinal(type.getModifiers()), true);
        Constructor<?>[] makers = type.getDeclaredConstructors();
        Check.same("rule 1: one constructor", makers.length, 1);
        Check.same("rule 1: it is public", Modifier.isPublic(makers[0].getModifiers()), true);
        Check.same("rule 1: it takes nothing", makers[0].getParameterCount(), 0);
        List<String> got = new ArrayList<>();
        for (Method method : type.getDeclaredMethods()) {
            if (!Modifier.isPrivate(method.getModifiers())) {
                got.add(signature(method));
            }
        }
        List<String> due = new ArrayList<>(Arrays.asList(FACE));
        Collections.sort(got);
        Collections.sort(due);
        Check.same("rule 1: the face", got.toString(), due.toString());
        for (Field field : type.getDeclaredFields()) {
            Check.same("rule 1: a private field", Modifier.isPrivate(field.getModifiers()), true);
        }
    }

    private static String signature(Method method) {
        String text = method.getReturnType() + " " + method.getName() + "(" + names(method.getParameterTypes()) + ")";
        String thrown = names(method.getExceptionTypes());
        return thrown.isEmpty() ? text : text + " throws " + thrown;
    }

    private static String names(Class<?>[] types) {
        List<String> names = new ArrayList<>();
        for (Class<?> type : types) {
            names.add(type.getSimpleName());
        }
        return String.join(",", names);
    }

    private static void members(Class<?> type) {
        Set<String> face = new HashSet<>();
        for (Method method : RowPages.class.getMethods()) {
            face.add(method.getName());
        }
        for (Method method : type.getDeclaredMethods()) {
            boolean isFace = type == RowPages.class && Modifier.isPublic(method.getModifiers());
            Check.same("rule 1: the name " + method.getName(), !isFace && face.contains(method.getName()), false);
            Check.same("rule 11: parameters", method.getParameterCount() <= 7, true);
        }
        int fields = 0;
        for (Field field : type.getDeclaredFields()) {
            boolean isStatic = Modifier.isStatic(field.getModifiers());
            fields += isStatic ? 0 : 1;
            Check.same("rule 5: " + field.getName(), isStatic && !Modifier.isFinal(field.getModifiers()), false);
        }
        Check.same("rule 11: fields", fields <= 20, true);
    }

    /** The three lines that the interface says stand each ahead of its own calls. */
    private static void headings() throws Exception {
        String text = Files.readString(SOURCE);
        int last = 0;
        String[] signs = {"// ---- transactions\n", "public int begin()", "public int end(", "public int jump(",
            "public int stamp(", "public boolean isBefore(", "// ---- reading and writing\n", "public int read(",
            "public int readPlain(", "public int write(", "public boolean delete(", "// ---- pages\n",
            "public int clean(", "public int setFreezing(", "public boolean isMapped(", "public boolean isWhole(",
            "public int slot(", "public int entries(", "public float fullness(", "public int oldest("};
        for (String sign : signs) {
            int place = text.indexOf(sign);
            Check.same("Terms: the interface says " + sign.trim() + " in its order", place > last, true);
            last = place;
        }
    }

    private static void source() throws Exception {
        String text = Files.readString(SOURCE);
        String[] ruledOut = {"import ", "package ", "->", "::", "catch", "finally", "synchronized", "assert",
            "static {", "System.", "Exact(", "while (true)", "for (;;)", "@"};
        for (String sign : ruledOut) {
            Check.same("LANGUAGE.md: the source has no " + sign, text.contains(sign), false);
        }
        for (char sign : text.toCharArray()) {
            if (sign > 126) {
                Check.same("LANGUAGE.md: a sign", sign, ' ');
            }
        }
    }

    /** Every call by the name of a class: rule 4 has a list, and these few are on it. */
    private static void library() throws Exception {
        Set<String> allowed = Set.of("Math.max", "Math.floorMod", "Long.bitCount", "Transactions.has");
        Matcher call = Pattern.compile("\\b([A-Z]\\w*\\.[a-z]\\w*)\\s*\\(").matcher(Files.readString(SOURCE));
        while (call.find()) {
            Check.same("rule 4: " + call.group(1), allowed.contains(call.group(1)), true);
        }
    }

    /** Only constructors and fields make objects that stay; a call makes its exception alone. */
    private static void news() throws Exception {
        int made = 0;
        for (String line : Files.readString(SOURCE).split("\n")) {
            String text = line.trim();
            if (text.startsWith("throw new ")) {
                Check.same("rule 6: " + text, text.matches("throw new \\w+Exception\\(\"[^\"]+\"\\);"), true);
            } else if (text.contains("new ") && !text.startsWith("/") && !text.startsWith("*")) {
                boolean isField = text.matches("(private )?final \\w+(\\[\\])+ \\w+ = new .*;");
                boolean isOwn = text.matches("\\w+ = new (Transactions|Slots|Index|Table|boolean)\\W.*;");
                Check.same("room: " + text, isField || isOwn, true);
                made++;
            }
        }
        Check.same("room: objects are made", made > 0, true);
    }

    private static void methodLengths() throws Exception {
        int length = 0;
        for (String line : Files.readString(SOURCE).split("\n")) {
            boolean isMethodEnd = line.matches("( {4}| {8})\\}");
            length = isMethodEnd || line.isEmpty() ? 0 : length + 1;
            Check.same("rule 11: a method of more than sixty lines", length > 60, false);
        }
    }

    /** Every line of the document's face stands in the class, however it is broken into lines there. */
    private static void documentedFace() throws Exception {
        String text = Files.readString(SOURCE).replaceAll("\\s+", " ");
        int lines = 0;
        for (String line : Document.section("The public face").split("\n")) {
            if (line.trim().startsWith("public ")) {
                lines++;
                String due = line.trim().replaceFirst(";$", " {");
                Check.same("the face has: " + due, text.contains(due), true);
            }
        }
        Check.same("lines of the face", lines, FACE.length + 2);
    }
}
