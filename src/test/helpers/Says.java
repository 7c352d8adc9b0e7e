import java.lang.annotation.Retention;
import java.lang.annotation.RetentionPolicy;

/** The words of the document that do not hold if the case is wrong. */
@Retention(RetentionPolicy.RUNTIME)
@interface Says {
    String[] value();
}
