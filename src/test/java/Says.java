import java.lang.annotation.ElementType;
import java.lang.annotation.Retention;
import java.lang.annotation.RetentionPolicy;
import java.lang.annotation.Target;

/** Marks the test of one sentence of the document: of a promise, or (0) of what stands ahead of promise 1. */
@Retention(RetentionPolicy.RUNTIME)
@Target(ElementType.METHOD)
@interface Says {
    int promise() default 0;

    /** The sentence, letter by letter as in the document. */
    String words();
}
