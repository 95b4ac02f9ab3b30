import java.lang.annotation.Retention;
import java.lang.annotation.RetentionPolicy;

/** The words of the document that a test of a boundary case holds, behind the place where they stand. */
@Retention(RetentionPolicy.RUNTIME)
@interface Says {
    /** "Terms 1" to "Terms 4", "Promise 1" to "Promise 35", or "What it is". */
    String at();

    /** The words as they stand in the document, but for line ends. */
    String words();
}
