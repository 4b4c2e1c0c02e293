import java.lang.reflect.Method;

/** From its first line to its last, the document has no words but those that a test says, or that need none. */
final class WholeDocumentTest {
    /** Words without a test of their own in the classes of sentences: section, words, and why. */
    private static final String[][] WITHOUT_TEST = {
        {"What it is", "A row store:", "tells what follows"},
        {"Terms", "Callers begin and end transactions, read and write, clean pages, let stamps jump, and ask.",
            "tells of the calls"},
        {"Terms", "in the order in which they were made", "no answer tells the order: NOTES.md"},
        {"Terms", "What a transaction sees:", "tells what follows"},
        {"Terms", "the latest first", "no answer tells the order: NOTES.md"},
        {"Terms", "Writing.", "tells what follows"},
        {"Terms", "A transaction that is taken back:", "tells what follows"},
        {"Terms", "Cleaning a page.", "tells what follows"},
        {"Terms", "Then", "no answer tells the order: NOTES.md"},
        {"Terms", "Ahead of the calls `begin`, `end`, `jump`, `stamp`, `isBefore` the interface says: ---- transactions.",
            "FaceTest"},
        {"Terms", "Ahead of the calls `read`, `readPlain`, `write`, `delete` the interface says: ---- reading and writing.",
            "FaceTest"},
        {"Terms", "Ahead of the calls `clean`, `setFreezing`, `isMapped`, `isWhole`, `slot`, `entries`, `fullness`, `oldest`"
            + " the interface says: ---- pages.", "FaceTest"},
    };

    private WholeDocumentTest() {
    }

    public static void main(String[] args) throws Exception {
        for (Document.Section section : Document.sections()) {
            if (hasTests(section)) {
                Check.same(section.title() + ": words that nothing holds", wordsLeft(section), "");
            }
        }
        for (String[] row : WITHOUT_TEST) {
            Check.same("the document says: " + row[1], Document.section(row[0]).contains(row[1]), true);
        }
        Check.finish();
    }

    /** FaceTest holds the face; and what is not promised binds nobody. */
    private static boolean hasTests(Document.Section section) {
        return !section.title().equals("The public face") && !section.title().equals("Not promised");
    }

    private static String wordsLeft(Document.Section section) {
        boolean[] held = new boolean[section.text().length()];
        for (Method test : Boundaries.tests()) {
            Says says = test.getAnnotation(Says.class);
            if (section.is(says.in())) {
                hold(held, section.text(), says.value());
            }
        }
        for (String[] row : WITHOUT_TEST) {
            if (section.is(row[0])) {
                hold(held, section.text(), row[1]);
            }
        }
        if (section.title().startsWith("Promise ")) {
            hold(held, section.text(), head(section.text()));
        }
        return rest(held, section.text());
    }

    private static void hold(boolean[] held, String text, String words) {
        int first = text.indexOf(words);
        for (int place = first; first >= 0 && place < first + words.length(); place++) {
            held[place] = true;
        }
    }

    /** The call as the face has it, which FaceTest holds. */
    private static String head(String text) {
        int first = text.indexOf('`');
        return text.substring(first, text.indexOf('`', first + 1) + 1);
    }

    private static String rest(boolean[] held, String text) {
        StringBuilder rest = new StringBuilder();
        for (int place = 0; place < text.length(); place++) {
            char sign = text.charAt(place);
            boolean isLeft = !held[place] && Character.isLetterOrDigit(sign);
            rest.append(isLeft ? sign : ' ');
        }
        return rest.toString().trim().replaceAll("\\s+", " ");
    }
}
