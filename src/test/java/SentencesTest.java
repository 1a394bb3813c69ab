import java.lang.reflect.Method;
import java.util.Arrays;
import java.util.Comparator;

/** Runs each test that is tied to a sentence of DOC.md, and fails if a clause there has none. */
public final class SentencesTest {
    private static final Class<?>[] TESTS = {TraySentences.class, TextSentences.class, ToldSentences.class,
        DebtSentences.class, DeedSentences.class, QuestionSentences.class, YearsSentences.class, StatusSentences.class};

    public static void main(String[] args) throws Exception {
        Doc doc = Doc.read();
        Check.due("parts of DOC.md: what it is, five of terms, 63 promises", doc.size(), 69);
        int tests = 0;
        for (Class<?> one : TESTS) {
            Method[] methods = one.getDeclaredMethods();
            Arrays.sort(methods, Comparator.comparing(Method::getName));
            for (Method m : methods) {
                if (m.isAnnotationPresent(Says.class)) {
                    tests++;
                    run(doc, m);
                }
            }
        }
        for (String clause : doc.unquoted()) {
            Check.due("tests of the clause \"" + clause + "\"", 0, 1);
        }
        System.out.println(tests + " tests of sentences");
        Check.end();
    }

    private static void run(Doc doc, Method m) throws Exception {
        Says says = m.getAnnotation(Says.class);
        Check.about(m.getName() + " (" + says.at() + ": " + says.words() + "): ");
        Check.due("the words stand in DOC.md", doc.quote(says.at(), says.words()), true);
        int ahead = Check.asked();
        m.invoke(null);
        Check.due("it asks something", Check.asked() > ahead, true);
        Check.about("");
    }
}
