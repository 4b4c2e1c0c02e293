import java.lang.reflect.Method;
import java.nio.file.Files;
import java.nio.file.Path;

/** Every sentence that names a boundary case holds, and stands in the document as the test has it. */
final class BoundaryTest {
    private BoundaryTest() {
    }

    public static void main(String[] args) throws Exception {
        String document = Files.readString(Path.of("../shared/DOC.md"));
        for (Method test : Boundaries.tests()) {
            Says says = test.getAnnotation(Says.class);
            Check.same(Boundaries.name(test) + ": the words stand in " + says.in(),
                    section(document, says.in()).contains(says.value()), true);
            Check.same(Boundaries.name(test) + " ends with", Boundaries.run(test), "nothing");
        }
        Check.finish();
    }

    /** What stands below a heading, up to the next one. */
    private static String section(String document, String heading) {
        StringBuilder text = new StringBuilder();
        boolean isInside = false;
        for (String line : document.split("\n")) {
            if (line.startsWith("#")) {
                String title = line.replaceFirst("#+ ", "");
                isInside = title.equals(heading) || title.startsWith(heading + ":");
            } else if (isInside) {
                text.append(line).append('\n');
            }
        }
        return text.toString();
    }
}
