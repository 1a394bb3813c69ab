import java.nio.file.Files;
import java.nio.file.Path;
import java.util.ArrayList;
import java.util.LinkedHashMap;
import java.util.List;
import java.util.Map;
import java.util.regex.Matcher;
import java.util.regex.Pattern;

/** DOC.md by its parts, and which of its words have been quoted. */
final class Doc {
    private final Map<String, String> parts = new LinkedHashMap<>();
    private final Map<String, boolean[]> quoted = new LinkedHashMap<>();

    static Doc read() throws Exception {
        return new Doc(Files.readString(Path.of("../shared/DOC.md")));
    }

    private Doc(String text) {
        String plain = text.replace("&lt;", "<").replace("&gt;", ">").replace("```text", "").replace("```", "");
        String[] chapters = plain.split("(?m)^## ");
        for (String chapter : chapters) {
            if (chapter.startsWith("Terms")) {
                addTerms(chapter.substring("Terms".length()));
            } else if (chapter.startsWith("Promise ")) {
                // the name and the head of the method say nothing that a call could break
                String body = chapter.substring(chapter.indexOf('\n')).replaceFirst("`[^`]*`: ", "");
                add(chapter.substring(0, chapter.indexOf(':')), body);
            } else if (chapter.startsWith("What it is")) {
                // what stands ahead of this sums up the promises
                add("What it is", chapter.substring(chapter.indexOf("==== 1.") + "==== 1.".length()));
            }
        }
    }

    private void addTerms(String terms) {
        String[] five = terms.split("==== \\d\\.");
        for (int i = 0; i < five.length; i++) {
            // behind this the last part tells only where headings of the interface stand
            int end = five[i].indexOf("Ahead of the calls");
            add("Terms " + (i + 1), end < 0 ? five[i] : five[i].substring(0, end));
        }
    }

    private void add(String name, String body) {
        String flat = flat(body);
        parts.put(name, flat);
        quoted.put(name, new boolean[flat.length()]);
    }

    private static String flat(String text) {
        return text.replaceAll("\\s+", " ").trim();
    }

    /** Whether the part has these words; they count as quoted then. */
    boolean quote(String part, String words) {
        String body = parts.get(part);
        int at = body == null ? -1 : body.indexOf(flat(words));
        if (at < 0) {
            return false;
        }
        for (int i = at; i < at + flat(words).length(); i++) {
            quoted.get(part)[i] = true;
        }
        return true;
    }

    int size() {
        return parts.size();
    }

    /** Clauses, from one stop, colon or semicolon to the next, of which no word was quoted. */
    List<String> unquoted() {
        List<String> left = new ArrayList<>();
        for (Map.Entry<String, String> part : parts.entrySet()) {
            Matcher clause = Pattern.compile("[^.;:]*[a-zA-Z0-9][^.;:]*").matcher(part.getValue());
            while (clause.find()) {
                if (!touched(quoted.get(part.getKey()), clause.start(), clause.end())) {
                    left.add(part.getKey() + ": " + clause.group().trim());
                }
            }
        }
        return left;
    }

    private static boolean touched(boolean[] marks, int from, int to) {
        for (int i = from; i < to; i++) {
            if (marks[i]) {
                return true;
            }
        }
        return false;
    }
}
