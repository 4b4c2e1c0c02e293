import java.lang.annotation.ElementType;
import java.lang.annotation.Repeatable;
import java.lang.annotation.Retention;
import java.lang.annotation.RetentionPolicy;
import java.lang.annotation.Target;

/**
 * A change to the text of the class that breaks the words a test says: the test must fail then.
 * Any white space in the text stands for any white space in the class.
 */
@Retention(RetentionPolicy.RUNTIME)
@Target(ElementType.METHOD)
@Repeatable(Break.All.class)
@interface Break {
    String from();

    String to();

    /** What the compiler puts several of them into. */
    @Retention(RetentionPolicy.RUNTIME)
    @Target(ElementType.METHOD)
    @interface All {
        Break[] value();
    }
}
