import java.lang.reflect.Method;
import java.util.ArrayList;
import java.util.HashMap;
import java.util.List;
import java.util.Map;
import java.util.Random;

/** Random runs of calls: FalseNotes beside the Model, call by call. */
public final class ModelTest {
    private static final int RUNS = 3000;
    private static final int CALLS = 250;
    private static final String[] NAMES = {"a", "bo", "cia", "dell", "e", "farthing", "g", "h"};
    private static final Map<String, Method> METHODS = new HashMap<>();

    private final Random random;
    private final FalseNotes real = new FalseNotes();
    private final Model model = new Model();
    private final List<String> done = new ArrayList<>();
    private int singers = 0;

    private ModelTest(long seed) {
        random = new Random(seed);
    }

    public static void main(String[] args) throws Exception {
        for (Method m : FalseNotes.class.getDeclaredMethods()) {
            if (java.lang.reflect.Modifier.isPublic(m.getModifiers())) {
                METHODS.put(m.getName(), m);
            }
        }
        int runs = args.length > 0 ? Integer.parseInt(args[0]) : RUNS;
        int from = args.length > 1 ? Integer.parseInt(args[1]) : 0;
        int wrong = 0;
        for (int seed = from; seed < from + runs && wrong < 3; seed++) {
            wrong += new ModelTest(seed).run(seed) ? 0 : 1;
        }
        if (wrong > 0) {
            System.exit(1);
        }
        System.out.println(runs + " runs are as the model's");
    }

    private boolean run(int seed) throws Exception {
        for (int i = 0; i < CALLS; i++) {
            if (!next() || !alike("status") || i % 7 == 0 && !looksAlike()) {
                System.out.println("run " + seed + ": " + String.join(" ", done.subList(Math.max(0, done.size() - 60), done.size())));
                return false;
            }
        }
        return true;
    }

    private boolean next() throws Exception {
        int r = random.nextInt(100);
        if (singers == 0 || r < 2) {
            return text(choirText(), "choir");
        }
        if (r < 6) {
            return text(yearsText(), "years");
        }
        if (r < 50) {
            return likelyDeed();
        }
        return anything();
    }

    private int pick(int n) {
        return random.nextInt(n);
    }

    private int who() {
        return pick(20) == 0 ? pick(12) - 2 : pick(Math.max(1, singers));
    }

    private int oddly(int usual) {
        switch (pick(60)) {
            case 0: return -1;
            case 1: return Integer.MAX_VALUE;
            case 2: return Integer.MIN_VALUE;
            case 3: return 0;
            case 4: return 1000;
            case 5: return 999;
            case 6: return 10000;
            case 7: return 9999;
            case 8: return random.nextInt();
            default: return usual;
        }
    }

    private boolean likelyDeed() throws Exception {
        switch (pick(26)) {
            case 0: case 1: case 2: case 3: case 4: case 5: case 6:
                return alike("lend", who(), who(), oddly(1 + pick(pick(3) == 0 ? 99 : 12)));
            case 7: case 8: case 9: return pay();
            case 10: case 11: return alike("chord", who(), who());
            case 12: return alike("sunday");
            case 13: return alike("cold", who());
            case 14: case 15: return alike("well", who());
            case 16: return pick(3) == 0 ? alike("die", who()) : alike("hum", oddly(pick(51)));
            case 17: case 18: return alike("earn", who(), oddly(1 + pick(pick(4) == 0 ? 999 : 60)));
            case 19: return alike("name", who(), pick(4) == 0 ? -1 : who());
            case 20: return pick(3) == 0 ? alike("chords") : alike("clear");
            case 21: case 22: return alike("live", oddly(pick(10000))) && alike("lived", 0) && alike("lived", 1)
                    && alike("lived", 2) && alike("lived", 3) && alike("lived", 4);
            case 23: return alike("mark");
            case 24: return alike("undo");
            default: return alike("mean", oddly(pick(10000)), oddly(1 + pick(5)));
        }
    }

    /** A DEBT that stands, if there is one. */
    private boolean pay() throws Exception {
        if (model.w.debts.isEmpty() || pick(6) == 0) {
            return alike("pay", who(), who(), oddly(1 + pick(30)));
        }
        Model.Debt d = model.w.debts.get(pick(model.w.debts.size()));
        return alike("pay", d.who(), d.whom(), pick(2) == 0 ? d.much() : 1 + pick(d.much() + 1));
    }

    private boolean anything() throws Exception {
        String[] names = {"told", "singer", "line", "held", "owed", "waiting", "sung", "copySung", "balance", "payings",
            "parts", "shorts", "lacking", "richest", "deepest", "bass", "round", "roundAt", "ask", "askSet", "chain",
            "behind", "free", "queue", "roomiest", "falsest", "heard", "transposed", "forged", "whose", "grows", "before",
            "when", "owedIn", "lived", "fault", "top", "bottom", "tray", "write", "write", "read", "pour", "clear", "chords"};
        String name = names[pick(names.length)];
        int many = METHODS.get(name).getParameterCount();
        int[] p = new int[many];
        for (int i = 0; i < many; i++) {
            p[i] = usual(name, i);
        }
        return alike(name, p);
    }

    private int usual(String name, int i) {
        boolean singerFirst = "singer line held owed sung copySung balance behind free queue falsest heard transposed forged whose"
                .contains(name);
        if (singerFirst && i == 0 || name.equals("owed")) {
            return oddly(who());
        }
        switch (name) {
            case "told": return oddly(pick(10));
            case "singer": return oddly(pick(7));
            case "line": case "sung": return oddly(pick(4));
            case "held": return oddly(pick(i == 1 ? 4 : 2));
            case "waiting": return oddly(pick(i == 0 ? 4 : 3));
            case "roundAt": return oddly(pick(4));
            case "whose": return model.w.debts.isEmpty() ? oddly(1 + pick(999))
                    : oddly(model.w.debts.get(pick(model.w.debts.size())).much());
            case "grows": case "before": case "when": case "owedIn": return oddly(pick(pick(2) == 0 ? 1000 : 30));
            case "lived": return oddly(pick(5));
            case "fault": return oddly(pick(2));
            case "tray": return oddly(pick(i == 0 ? 4 : i == 1 ? 4 : 12));
            case "write": return oddly(i == 0 ? pick(4) : i == 1 ? pick(6) : pick(10) == 0 ? random.nextInt() : pick(40) - 12);
            case "pour": return oddly(i == 0 || i == 2 ? pick(4) : pick(5));
            default: return oddly(pick(4));
        }
    }

    private boolean text(String text, String what) throws Exception {
        int n = text.length();
        if (what.equals("years") && n > 300) {
            n = pick(2) == 0 ? 301 : 300;
        }
        for (int i = 0; i < text.length(); i += 20) {
            int[] p = new int[5];
            for (int j = 0; j < 20; j++) {
                int c = i + j < text.length() ? text.charAt(i + j) : 0;
                p[j / 4] |= (c & 255) << 24 - j % 4 * 8;
            }
            if (!alike("feed", p)) {
                return false;
            }
        }
        boolean fine = alike(what, oddly(Math.min(n, 900))) && alike("fault", 0) && alike("fault", 1);
        singers = model.w.singers.size();
        return fine;
    }

    private String name() {
        return pick(60) == 0 ? "cold" : pick(60) == 0 ? "ninelette" : NAMES[pick(Math.max(1, pick(30) == 0 ? 8 : singers))];
    }

    /** Mostly right; now and then a TOKEN is another, or gone. */
    private String spoiled(List<String> tokens) {
        if (pick(4) == 0 && !tokens.isEmpty()) {
            String[] odd = {";", "<", "=", "singer", "line", "end", "12345", "9999", "0", "#", "abcdefghi", "bass", "hums", "any",
                "", "loop", "when", "a", "\u00ff", "100", "A"};
            tokens.set(pick(tokens.size()), odd[pick(odd.length)]);
        }
        StringBuilder text = new StringBuilder();
        for (String token : tokens) {
            text.append(token);
            boolean tight = token.equals(";") || token.equals("<") || token.equals("=");
            text.append(tight && pick(9) != 0 ? "" : pick(9) == 0 ? "\n " : " ");
        }
        return text.toString();
    }

    private void add(List<String> tokens, Object... some) {
        for (Object o : some) {
            tokens.add(o.toString());
        }
    }

    private String choirText() {
        List<String> tokens = new ArrayList<>();
        int many = 2 + pick(pick(3) == 0 ? 7 : 5);
        for (int s = 0; s < many; s++) {
            add(tokens, "singer", NAMES[Math.min(s, 7)], "purse", pick(3) == 0 ? pick(1000) : pick(60));
            for (String voice : new String[] {"bass", "deaf", "cold"}) {
                if (pick(5) == 0) {
                    tokens.add(voice);
                }
            }
            if (pick(4) != 0) {
                tokens.add("line");
                int notes = 1 + pick(pick(3) == 0 ? 6 : 2);
                for (int i = 0; i < notes; i++) {
                    add(tokens, pick(25));
                }
            }
            tokens.add(";");
        }
        singers = many > 8 ? 8 : many;
        int owes = pick(16);
        for (int i = 0; i < owes; i++) {
            int a = pick(singers);
            int b = (a + 1 + pick(Math.max(1, singers - 1))) % singers;
            add(tokens, "owes", NAMES[a], NAMES[b], 1 + pick(pick(2) == 0 ? 9 : 99), ";");
        }
        int heirs = pick(4);
        for (int i = 0; i < heirs; i++) {
            int a = pick(singers);
            add(tokens, "heir", NAMES[a], NAMES[(a + 1 + pick(Math.max(1, singers - 1))) % singers], ";");
        }
        if (pick(3) != 0) {
            add(tokens, "hums", pick(51), ";");
        }
        String text = spoiled(tokens);
        return text.length() > 900 ? text.substring(0, 900) : text;
    }

    private String yearsText() {
        List<String> tokens = new ArrayList<>();
        int many = pick(14);
        int open = 0;
        for (int i = 0; i < many; i++) {
            int kind = pick(open > 0 ? 16 : 13);
            switch (kind) {
                case 0: case 1: add(tokens, "lend", name(), "to", name(), 1 + pick(20), ";"); break;
                case 2: add(tokens, "pay", name(), "to", name(), 1 + pick(12), ";"); break;
                case 3: add(tokens, "sunday", ";"); break;
                case 4: add(tokens, "cold", name(), ";"); break;
                case 5: add(tokens, pick(3) == 0 ? "die" : "cold", name(), ";"); break;
                case 6: add(tokens, "chord", name(), name(), ";"); break;
                case 7: case 8: add(tokens, "any", ";"); break;
                case 9: case 10: when(tokens); open++; break;
                case 11: add(tokens, "loop", 1 + pick(pick(4) == 0 ? 99 : 6), ";"); open++; break;
                case 12: add(tokens, pick(4) == 0 ? "stop" : "any", ";"); break;
                default: add(tokens, "end", ";"); open--; break;
            }
        }
        for (int i = 0; i < open; i++) {
            add(tokens, "end", ";");
        }
        return spoiled(tokens);
    }

    private void when(List<String> tokens) {
        String sign = new String[] {"<", ">", "="}[pick(3)];
        switch (pick(3)) {
            case 0: add(tokens, "when", "debt", name(), "to", name(), sign, pick(20), ";"); break;
            case 1: add(tokens, "when", "purse", name(), sign, pick(60), ";"); break;
            default: add(tokens, "when", "still", name(), ";"); break;
        }
    }

    private boolean looksAlike() throws Exception {
        boolean fine = true;
        for (int what = 0; what < 10 && fine; what++) {
            fine = alike("told", what);
        }
        for (int s = 0; s < singers && fine; s++) {
            for (int what = 0; what < 7 && fine; what++) {
                fine = alike("singer", s, what);
            }
            for (int note = 0; note < 6 && fine; note++) {
                fine = alike("held", s, note, 0) && alike("held", s, note, 1);
            }
        }
        for (int k = 0; k < 8 && fine; k++) {
            fine = alike("waiting", k, 0) && alike("waiting", k, 1) && alike("waiting", k, 2);
        }
        return fine && alike("top") && alike("bottom") && alike("payings") && alike("round") && alike("askSet") && alike("chain");
    }

    private boolean alike(String name, int... p) throws Exception {
        Object[] boxed = new Object[p.length];
        StringBuilder call = new StringBuilder(name).append('(');
        for (int i = 0; i < p.length; i++) {
            boxed[i] = name.equals("write") && i == 2 ? (Object) Long.valueOf(p[i]) : (Object) Integer.valueOf(p[i]);
            call.append(i == 0 ? "" : ", ").append(p[i]);
        }
        Object answer = METHODS.get(name).invoke(real, boxed);
        long got = answer instanceof Boolean b ? (b ? 1 : 0) : ((Number) answer).longValue();
        long want = model.call(name, p);
        done.add(call.append(")=").append(want).toString());
        if (got != want) {
            System.out.println(done.get(done.size() - 1) + " but got " + got);
        }
        return got == want;
    }
}
