import java.lang.annotation.ElementType;
import java.lang.annotation.Repeatable;
import java.lang.annotation.Retention;
import java.lang.annotation.RetentionPolicy;
import java.lang.annotation.Target;

/**
 * A change of the source that breaks the sentence of a test: the first place after at where from
 * stands becomes to. BreaksTest makes it and asks that the test fails then.
 */
@Retention(RetentionPolicy.RUNTIME)
@Target(ElementType.METHOD)
@Repeatable(Break.All.class)
@interface Break {
    String at();

    String from();

    String to();

    /** More than one break of a test. */
    @Retention(RetentionPolicy.RUNTIME)
    @Target(ElementType.METHOD)
    @interface All {
        Break[] value();
    }
}
