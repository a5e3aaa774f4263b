import java.lang.annotation.ElementType;
import java.lang.annotation.Retention;
import java.lang.annotation.RetentionPolicy;
import java.lang.annotation.Target;

/**
 * Marks a case: the number of the promise that it holds up, and the document's own words that it
 * is about. The words stand under that promise, or ahead of all promises.
 */
@Retention(RetentionPolicy.RUNTIME)
@Target(ElementType.METHOD)
@interface Promise {
  int n();

  String[] says();
}
