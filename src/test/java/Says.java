import java.lang.annotation.ElementType;
import java.lang.annotation.Retention;
import java.lang.annotation.RetentionPolicy;
import java.lang.annotation.Target;

/** The words of the document that a test holds the class to. */
@Retention(RetentionPolicy.RUNTIME)
@Target(ElementType.METHOD)
@interface Says {
    /** The promise where they stand; 0: ahead of the first one, in 'What it is' or 'Terms'. */
    int promise();

    /** The words as they stand there. */
    String words();
}
