import java.io.IOException;
import java.nio.file.Files;
import java.nio.file.Path;
import java.util.ArrayList;
import java.util.List;

/** The document, by its headings. */
final class Document {
    private static final Path FILE = Path.of("../shared/DOC.md");

    private Document() {
    }

    /** What stands below one heading, up to the next one. */
    record Section(String title, String text) {
        /** Whether a name is that of the section, which "Promise 2" is for "Promise 2: begin". */
        boolean is(String name) {
            return title.equals(name) || title.startsWith(name + ":");
        }
    }

    static List<Section> sections() throws IOException {
        List<Section> sections = new ArrayList<>();
        String title = "";
        StringBuilder text = new StringBuilder();
        for (String line : Files.readString(FILE).split("\n")) {
            if (line.startsWith("#")) {
                sections.add(new Section(title, text.toString()));
                title = line.replaceFirst("#+ ", "");
                text.setLength(0);
            } else {
                text.append(line).append('\n');
            }
        }
        sections.add(new Section(title, text.toString()));
        return sections;
    }

    static String section(String name) throws IOException {
        for (Section section : sections()) {
            if (section.is(name)) {
                return section.text();
            }
        }
        return "";
    }
}
