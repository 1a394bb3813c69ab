import java.lang.annotation.ElementType;
import java.lang.annotation.Retention;
import java.lang.annotation.RetentionPolicy;
import java.lang.annotation.Target;

/** Which words of DOC.md a test holds the program to: a part of it ("Terms 1" .. "Terms 5", "Promise 1" ..) and a quote. */
@Retention(RetentionPolicy.RUNTIME)
@Target(ElementType.METHOD)
@interface Says {
    String at();

    String words();
}
