import java.lang.annotation.ElementType;
import java.lang.annotation.Repeatable;
import java.lang.annotation.Retention;
import java.lang.annotation.RetentionPolicy;
import java.lang.annotation.Target;

/**
 * The words of the document that a test holds, behind the place where they stand: "Terms: ..", "Part 2: ..",
 * "Promise 17: ..", "What it is: ..". BoundsTest looks them up there, so that a test can be found by its sentence.
 */
@Retention(RetentionPolicy.RUNTIME)
@Target(ElementType.METHOD)
@Repeatable(Says.All.class)
@interface Says {
    String value();

    @Retention(RetentionPolicy.RUNTIME)
    @Target(ElementType.METHOD)
    @interface All {
        Says[] value();
    }
}
