import java.lang.annotation.Retention;
import java.lang.annotation.RetentionPolicy;

/** The words of ../shared/DOC.md that a test holds to, and the section in which they stand. */
@Retention(RetentionPolicy.RUNTIME)
@interface Says {
    String in();

    String[] words();
}
