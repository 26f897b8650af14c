import java.lang.annotation.ElementType;
import java.lang.annotation.Repeatable;
import java.lang.annotation.Retention;
import java.lang.annotation.RetentionPolicy;
import java.lang.annotation.Target;

/** A change of the class that breaks the words that a test is the test of: the test must notice it. */
@Retention(RetentionPolicy.RUNTIME)
@Target(ElementType.METHOD)
@Repeatable(Broken.All.class)
@interface Broken {
    /** The change is made at the first such text behind the first text 'in'. */
    String in() default "";

    String from();

    String to();

    /** What the Java language wants, so that one test can have several changes. */
    @Retention(RetentionPolicy.RUNTIME)
    @Target(ElementType.METHOD)
    @interface All {
        Broken[] value();
    }
}
