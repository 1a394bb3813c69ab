import java.lang.reflect.Constructor;
import java.lang.reflect.Executable;
import java.lang.reflect.Field;
import java.lang.reflect.Method;
import java.lang.reflect.Modifier;
import java.nio.file.Files;
import java.nio.file.Path;
import java.util.ArrayList;
import java.util.List;
import java.util.Set;
import java.util.TreeSet;
import java.util.regex.Matcher;
import java.util.regex.Pattern;

/** The rules of LANGUAGE.md that the source or the compiled class shows, and the document's face. */
public final class LanguageTest {
    private static final String[] FACE = {
        "int status()", "long top()", "long bottom()", "boolean tray(int,int,int)", "boolean write(int,int,long)",
        "long read(int,int)", "boolean pour(int,int,int,int,int)", "int feed(int,int,int,int,int)", "int choir(int)",
        "int years(int)", "int fault(int)", "int told(int)", "int singer(int,int)", "int line(int,int)",
        "int held(int,int,int)", "int owed(int,int)", "int waiting(int,int)", "int sung(int,int)", "int copySung(int,int)",
        "int lend(int,int,int)", "int pay(int,int,int)", "int chord(int,int)", "int sunday()", "int cold(int)",
        "int well(int)", "int die(int)", "int earn(int,int)", "boolean name(int,int)", "boolean hum(int)", "int chords()",
        "int balance(int)", "int payings()", "int parts()", "int shorts()", "int lacking()", "int richest()",
        "int deepest()", "boolean bass()", "int round()", "int roundAt(int)", "int clear()", "int ask()", "int askSet()",
        "int chain()", "int behind(int)", "int free(int)", "int queue(int)", "int roomiest()", "int falsest(int)",
        "int heard(int,int)", "int transposed(int,int)", "int forged(int,int)", "int whose(int,int)", "int grows(int,int)",
        "int before(int,int)", "int when(int,int)", "int owedIn(int)", "int live(int)", "int lived(int)",
        "boolean mean(int,int)", "int mark()", "int undo()"};
    private static final String[] FORBIDDEN = {"\\bthrow\\b", "\\bthrows\\b", "\\btry\\b", "\\bcatch\\b", "\\bfinally\\b",
        "\\bsynchronized\\b", "\\bassert\\b", "\\bpackage\\b", "->", "::", "\\bstatic\\s*\\{", "Exact\\(", "\\bSystem\\.(?!arraycopy)",
        "\\bdouble\\b", "\\bfloat\\b", "\\bhashCode\\b", "\\.equals\\(", "\\btoString\\b", "\\bMath\\.random\\b", "\\bThread\\b",
        "\\bString\\[\\]", "\\.values\\(", "\\bvar\\b", "@\\w+", "\"\\s*\\+", "\\+\\s*\""};

    private static void publicFace() {
        Set<String> due = new TreeSet<>(List.of(FACE));
        Set<String> got = new TreeSet<>();
        Set<String> names = new TreeSet<>();
        for (Method m : FalseNotes.class.getDeclaredMethods()) {
            if (Modifier.isPublic(m.getModifiers())) {
                got.add(signature(m));
                names.add(m.getName());
            }
        }
        Check.due("the document's methods " + due + " beside " + got, due.equals(got), true);
        Check.due("62 of them", got.size(), 62);
        Check.due("final", Modifier.isFinal(FalseNotes.class.getModifiers()), true);
        for (Method m : FalseNotes.class.getDeclaredMethods()) {
            boolean open = Modifier.isPublic(m.getModifiers());
            Check.due(m + " is public or private", open || Modifier.isPrivate(m.getModifiers()) || m.isSynthetic(), true);
            Check.due(m + " bears a name of the face", open || !names.contains(m.getName()), true);
        }
        for (Field f : FalseNotes.class.getDeclaredFields()) {
            Check.due(f + " is private", Modifier.isPrivate(f.getModifiers()) || f.getName().equals("NONE"), true);
        }
        for (Class<?> c : FalseNotes.class.getDeclaredClasses()) {
            for (Method m : c.getDeclaredMethods()) {
                Check.due(m + " bears a name of the face", names.contains(m.getName()), false);
            }
        }
        Constructor<?>[] makers = FalseNotes.class.getDeclaredConstructors();
        Check.due("one constructor", makers.length, 1);
        Check.due("it is public", Modifier.isPublic(makers[0].getModifiers()), true);
    }

    private static String signature(Method m) {
        StringBuilder text = new StringBuilder(m.getReturnType().getName()).append(' ').append(m.getName()).append('(');
        for (int i = 0; i < m.getParameterCount(); i++) {
            text.append(i == 0 ? "" : ",").append(m.getParameterTypes()[i].getName());
        }
        return text.append(')').toString();
    }

    private static void classesInside() {
        List<Class<?>> all = new ArrayList<>(List.of(FalseNotes.class.getDeclaredClasses()));
        Check.due("at most twelve classes", all.size() + 1 <= 12, true);
        for (Class<?> c : all) {
            Check.due(c + " is static", Modifier.isStatic(c.getModifiers()), true);
            Check.due(c + " is not public", Modifier.isPublic(c.getModifiers()) || Modifier.isProtected(c.getModifiers()), false);
        }
        all.add(FalseNotes.class);
        for (Class<?> c : all) {
            int fields = 0;
            for (Field f : c.getDeclaredFields()) {
                boolean isStatic = Modifier.isStatic(f.getModifiers());
                fields += isStatic ? 0 : 1;
                Check.due(f + " is final", !isStatic || Modifier.isFinal(f.getModifiers()), true);
            }
            Check.due(c + " has at most twenty fields", fields <= 20, true);
            List<Executable> doers = new ArrayList<>(List.of(c.getDeclaredMethods()));
            doers.addAll(List.of(c.getDeclaredConstructors()));
            for (Executable e : doers) {
                Check.due(e + " takes at most seven", e.getParameterCount() <= 7, true);
            }
        }
    }

    private static String withoutTexts(String source) {
        String bare = source.replaceAll("(?s)/\\*.*?\\*/", "").replaceAll("//[^\n]*", "");
        return bare;
    }

    private static void sourceRules(String source) {
        String bare = withoutTexts(source);
        for (String form : FORBIDDEN) {
            Matcher m = Pattern.compile(form).matcher(bare);
            Check.due("the source holds " + form, m.find(), false);
        }
        Matcher imports = Pattern.compile("(?m)^import (.*);").matcher(bare);
        while (imports.find()) {
            Check.due("import " + imports.group(1), imports.group(1).equals("java.util.Arrays"), true);
        }
        for (int i = 0; i < source.length(); i++) {
            char c = source.charAt(i);
            Check.due("sign " + (int) c, c == '\n' || c >= 32 && c < 127, true);
        }
    }

    private static void methodLengths(String source) {
        String[] lines = source.split("\n");
        int start = -1;
        String end = "";
        for (int i = 0; i < lines.length; i++) {
            Matcher m = Pattern.compile("^( {4}| {8})(?!(?:if|for|while|switch|else|return)\\b)[a-zA-Z].*\\) \\{$").matcher(lines[i]);
            if (start < 0 && m.find()) {
                start = i;
                end = m.group(1) + "}";
            } else if (start >= 0 && lines[i].equals(end)) {
                Check.due("lines of " + lines[start].trim(), i - start < 60, true);
                start = -1;
            }
        }
    }

    public static void main(String[] args) throws Exception {
        String source = Files.readString(Path.of("src/main/java/FalseNotes.java"));
        publicFace();
        classesInside();
        sourceRules(source);
        methodLengths(source);
        Check.end();
    }
}
