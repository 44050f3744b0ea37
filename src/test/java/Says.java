import java.lang.annotation.Retention;
import java.lang.annotation.RetentionPolicy;

/** The words of the document by which a test's answers are due. */
@Retention(RetentionPolicy.RUNTIME)
@interface Says {
    /** A promise's number, "Terms" or "What it is". */
    String in();

    String words();
}
