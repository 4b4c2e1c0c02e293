import java.lang.reflect.InvocationTargetException;
import java.lang.reflect.Method;
import java.util.ArrayList;
import java.util.Comparator;
import java.util.List;

/** All tests of sentences, those that name a boundary case and the ordinary ones. */
final class Boundaries {
    private static final Class<?>[] CLASSES = {
        TransactionBoundaries.class,
        SeeingBoundaries.class,
        WritingBoundaries.class,
        CleaningBoundaries.class,
        PageBoundaries.class,
        ThrowingBoundaries.class,
        OrdinarySentences.class,
    };

    private Boundaries() {
    }

    static List<Method> tests() {
        List<Method> tests = new ArrayList<>();
        for (Class<?> type : CLASSES) {
            List<Method> own = new ArrayList<>();
            for (Method method : type.getDeclaredMethods()) {
                if (method.isAnnotationPresent(Says.class)) {
                    own.add(method);
                }
            }
            own.sort(Comparator.comparing(Method::getName));
            tests.addAll(own);
        }
        return tests;
    }

    static String name(Method test) {
        return test.getDeclaringClass().getSimpleName() + "." + test.getName();
    }

    /** What the test threw, "nothing" if it came to its end. */
    static String run(Method test) throws IllegalAccessException {
        try {
            test.invoke(null);
            return "nothing";
        } catch (InvocationTargetException thrown) {
            return String.valueOf(thrown.getCause());
        }
    }
}
