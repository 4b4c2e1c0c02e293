import java.lang.reflect.Method;

/** Every sentence that has a test holds, and stands in the document as the test has it. */
final class BoundaryTest {
    private BoundaryTest() {
    }

    public static void main(String[] args) throws Exception {
        for (Method test : Boundaries.tests()) {
            Says says = test.getAnnotation(Says.class);
            Check.same(Boundaries.name(test) + ": the words stand in " + says.in(),
                    Document.section(says.in()).contains(says.value()), true);
            Check.same(Boundaries.name(test) + " ends with", Boundaries.run(test), "nothing");
        }
        Check.finish();
    }
}
