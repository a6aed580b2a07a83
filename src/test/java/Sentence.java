import java.lang.annotation.Retention;
import java.lang.annotation.RetentionPolicy;

/** The sentence of the document that a test is for, behind the number of its promise, or the name of its term. */
@Retention(RetentionPolicy.RUNTIME)
@interface Sentence {
    String value();
}
