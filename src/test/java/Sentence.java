import java.lang.annotation.ElementType;
import java.lang.annotation.Retention;
import java.lang.annotation.RetentionPolicy;
import java.lang.annotation.Target;

/** Which sentence of the document a test holds, word by word, and of which promise. */
@Retention(RetentionPolicy.RUNTIME)
@Target(ElementType.METHOD)
@interface Sentence {
    int promise();

    /** Of the promise itself, or of the Terms that it uses; without blanks at the ends of lines. */
    String[] says();
}
