import java.util.ArrayList;
import java.util.Arrays;
import java.util.HashMap;
import java.util.List;
import java.util.Map;

/**
 * The document once more, written for plainness and in another way than FalseNotes (lists of DEBTS, trees of STEPS,
 * searches that try all), so that a slip in one of both shows.
 */
final class Model {
    /** A DEBT at a NOTE, or one that WAITS (note -1). */
    record Debt(int who, int whom, int much, int note) {
    }

    static final class Singer {
        String name;
        int purse;
        boolean bass;
        boolean cold;
        boolean deaf;
        boolean dead;
        int heir = -1;
        int[] line = {12, 14, 16};

        Singer copy() {
            Singer s = new Singer();
            s.name = name;
            s.purse = purse;
            s.bass = bass;
            s.cold = cold;
            s.deaf = deaf;
            s.dead = dead;
            s.heir = heir;
            s.line = line.clone();
            return s;
        }
    }

    record Step(String kind, int a, int b, String sign, int n, List<Step> body) {
    }

    static final class World {
        List<Singer> singers = new ArrayList<>();
        /** All DEBTS; those that WAIT in the order in which they came. */
        List<Debt> debts = new ArrayList<>();
        int hums;
        int sunday;
        int paid;
        List<Step> years;

        World copy() {
            World w = new World();
            for (Singer s : singers) {
                w.singers.add(s.copy());
            }
            w.debts.addAll(debts);
            w.hums = hums;
            w.sunday = sunday;
            w.paid = paid;
            w.years = years;
            return w;
        }

        boolean alive(int s) {
            return s >= 0 && s < singers.size() && !singers.get(s).dead;
        }

        List<Integer> living() {
            List<Integer> all = new ArrayList<>();
            for (int s = 0; s < singers.size(); s++) {
                if (alive(s)) {
                    all.add(s);
                }
            }
            return all;
        }

        Debt at(int singer, int note) {
            for (Debt d : debts) {
                if (d.whom == singer && d.note == note) {
                    return d;
                }
            }
            return null;
        }

        int firstFree(int singer) {
            for (int note = 0; note < singers.get(singer).line.length; note++) {
                if (at(singer, note) == null) {
                    return note;
                }
            }
            return -1;
        }

        Debt between(int who, int whom) {
            for (Debt d : debts) {
                if (d.who == who && d.whom == whom) {
                    return d;
                }
            }
            return null;
        }

        int owed(int who, int whom) {
            Debt d = between(who, whom);
            return d == null ? 0 : d.much;
        }

        int owedAtNote(int who, int whom) {
            Debt d = between(who, whom);
            return d == null || d.note < 0 ? 0 : d.much;
        }

        List<Debt> waiting() {
            return debts.stream().filter(d -> d.note < 0).toList();
        }

        int sum() {
            return debts.stream().mapToInt(d -> d.much).sum();
        }

        int owes(int s) {
            return debts.stream().filter(d -> d.who == s).mapToInt(d -> d.much).sum();
        }

        int isOwed(int s) {
            return debts.stream().filter(d -> d.whom == s).mapToInt(d -> d.much).sum();
        }

        /** Puts a DEBT of another height in the place of the old one, or takes it away. */
        void change(Debt old, int much) {
            int i = debts.indexOf(old);
            if (much == 0) {
                debts.remove(i);
            } else {
                debts.set(i, new Debt(old.who, old.whom, much, old.note));
            }
        }

        boolean owe(int who, int whom, int n) {
            Debt d = between(who, whom);
            if (d != null) {
                if (d.much + n > 999) {
                    return false;
                }
                change(d, d.much + n);
                return true;
            }
            int note = firstFree(whom);
            if (note < 0 && waiting().size() == 8) {
                return false;
            }
            debts.add(new Debt(who, whom, n, note));
            return true;
        }

        void fillFree() {
            boolean again = true;
            while (again) {
                again = false;
                for (Debt d : waiting()) {
                    int note = firstFree(d.whom);
                    if (note >= 0) {
                        debts.remove(d);
                        debts.add(new Debt(d.who, d.whom, d.much, note));
                        again = true;
                        break;
                    }
                }
            }
        }

        boolean lend(int from, int to, int n) {
            if (from == to || !alive(from) || !alive(to)) {
                return false;
            }
            Singer f = singers.get(from);
            Singer t = singers.get(to);
            if (t.cold || f.purse < n || t.purse + n > 9999 || !owe(to, from, n)) {
                return false;
            }
            f.purse -= n;
            t.purse += n;
            return true;
        }

        boolean pay(int from, int to, int n) {
            if (from == to || !alive(from) || !alive(to)) {
                return false;
            }
            Singer f = singers.get(from);
            Singer t = singers.get(to);
            if (owedAtNote(from, to) < n || f.purse < n || t.purse + n > 9999) {
                return false;
            }
            change(between(from, to), owed(from, to) - n);
            f.purse -= n;
            t.purse += n;
            paid += n;
            fillFree();
            return true;
        }

        int chord(int a, int b) {
            if (a == b || !alive(a) || !alive(b)) {
                return 0;
            }
            int less = Math.min(owedAtNote(a, b), owedAtNote(b, a));
            if (less > 0) {
                change(between(a, b), owed(a, b) - less);
                change(between(b, a), owed(b, a) - less);
            }
            fillFree();
            return less;
        }

        int grow(int debt, int sundays) {
            for (int i = 0; i < sundays; i++) {
                int more = debt * hums / 100;
                if (more == 0 && hums > 0 && debt > 0) {
                    more = 1;
                }
                debt = Math.min(999, debt + more);
            }
            return debt;
        }

        int grown(Debt d, int sundays) {
            return d.note < 0 || singers.get(d.whom).deaf ? d.much : grow(d.much, sundays);
        }

        boolean sunday() {
            if (sunday == 9999) {
                return false;
            }
            sunday++;
            debts.replaceAll(d -> new Debt(d.who, d.whom, grown(d, 1), d.note));
            return true;
        }

        /** Coins PAID, or -1. */
        int cold(int s) {
            if (!alive(s) || singers.get(s).cold) {
                return -1;
            }
            int all = 0;
            for (int other = 0; other < singers.size(); other++) {
                for (int note = 0; note < singers.get(other).line.length; note++) {
                    Debt d = at(other, note);
                    if (d != null && d.who == s) {
                        int n = Math.min(d.much, singers.get(s).purse);
                        n = Math.min(n, 9999 - singers.get(other).purse);
                        singers.get(s).purse -= n;
                        singers.get(other).purse += n;
                        all += n;
                        change(d, d.much - n);
                    }
                }
            }
            paid += all;
            singers.get(s).cold = true;
            fillFree();
            return all;
        }

        boolean die(int s) {
            if (!alive(s)) {
                return false;
            }
            Singer gone = singers.get(s);
            int heir = alive(gone.heir) ? gone.heir : -1;
            if (heir >= 0) {
                singers.get(heir).purse = Math.min(9999, singers.get(heir).purse + gone.purse);
            }
            List<Debt> passed = new ArrayList<>();
            for (int other = 0; other < singers.size(); other++) {
                for (int note = 0; note < singers.get(other).line.length; note++) {
                    Debt d = at(other, note);
                    if (d != null && d.who == s) {
                        passed.add(d);
                    }
                }
            }
            passed.addAll(waiting().stream().filter(d -> d.who == s).toList());
            for (Debt d : passed) {
                debts.remove(d);
                if (heir >= 0 && d.whom != heir) {
                    owe(heir, d.whom, d.much);
                }
            }
            debts.removeIf(d -> d.whom == s);
            gone.purse = 0;
            gone.cold = false;
            gone.dead = true;
            fillFree();
            return true;
        }

        int sung(int s, int note) {
            Debt d = at(s, note);
            return singers.get(s).line[note] + (d == null ? 0 : d.much) - (singers.get(s).bass ? 12 : 0);
        }
    }

    static final class Life {
        World w;
        int s;
        int steps;
        int missed;
        int lent;
        int paid;
        int sundays;
        int left;
        boolean over;

        static Life of(World w, int seed) {
            Life life = new Life();
            life.w = w;
            life.s = seed;
            int ahead = w.paid;
            life.all(w.years);
            life.paid = w.paid - ahead;
            return life;
        }

        int draw(int n) {
            s = (s * 2971 + 11173) % 65536;
            return s / 8 % n;
        }

        void all(List<Step> body) {
            for (Step step : body) {
                if (over) {
                    return;
                }
                if (steps == 300) {
                    left = 1;
                    over = true;
                    return;
                }
                steps++;
                one(step);
            }
        }

        void one(Step p) {
            boolean done = true;
            switch (p.kind) {
                case "lend" -> done = lend(p.a, p.b, p.n);
                case "pay" -> done = w.pay(p.a, p.b, p.n);
                case "sunday" -> {
                    done = w.sunday();
                    sundays += done ? 1 : 0;
                }
                case "cold" -> done = w.cold(p.a) >= 0;
                case "die" -> done = w.die(p.a);
                case "chord" -> done = w.chord(p.a, p.b) > 0;
                case "any" -> {
                    List<Integer> living = w.living();
                    if (living.isEmpty()) {
                        done = false;
                    } else {
                        int from = living.get(draw(living.size()));
                        int to = living.get(draw(living.size()));
                        done = lend(from, to, draw(20) + 1);
                    }
                }
                case "stop" -> over = true;
                case "loop" -> {
                    for (int i = 0; i < p.n; i++) {
                        all(p.body);
                    }
                }
                case "debt" -> when(p, p.a == p.b ? 0 : w.owed(p.a, p.b));
                case "purse" -> when(p, w.singers.get(p.a).purse);
                case "still" -> when(p, w.owes(p.a) + w.isOwed(p.a));
                default -> throw new IllegalStateException(p.kind);
            }
            missed += done ? 0 : 1;
        }

        boolean lend(int from, int to, int n) {
            boolean done = w.lend(from, to, n);
            lent += done ? n : 0;
            return done;
        }

        void when(Step p, int value) {
            boolean holds = switch (p.sign) {
                case "<" -> value < p.n;
                case ">" -> value > p.n;
                default -> value == p.n;
            };
            if (holds) {
                all(p.body);
            }
        }
    }

    /** A FAULT on the way through a text. */
    static final class Fault extends RuntimeException {
        private static final long serialVersionUID = 1L;
        final int kind;
        final int place;

        Fault(int kind, int place) {
            super(null, null, false, false);
            this.kind = kind;
            this.place = place;
        }
    }

    static final class Text {
        static final List<String> WORDS = Arrays.asList("singer", "purse", "bass", "cold", "deaf", "line", "owes", "heir",
                "hums", "lend", "to", "pay", "sunday", "die", "chord", "any", "when", "debt", "still", "loop", "end", "stop");
        final String text;
        int at;
        int steps;

        Text(String text) {
            this.text = text;
        }

        int place() {
            int i = at;
            while (i < text.length() && (text.charAt(i) == ' ' || text.charAt(i) == '\n')) {
                i++;
            }
            return i;
        }

        /** The TOKEN that comes, "" at the end; throws FAULT 1. */
        String peek() {
            int i = place();
            if (i == text.length()) {
                return "";
            }
            String rest = text.substring(i);
            for (String form : new String[] {"[a-z]+", "[0-9]+", "[;<>=]"}) {
                java.util.regex.Matcher m = java.util.regex.Pattern.compile(form).matcher(rest);
                if (m.lookingAt()) {
                    if (form.equals("[0-9]+") && m.end() > 4) {
                        throw new Fault(1, i);
                    }
                    return m.group();
                }
            }
            throw new Fault(1, i);
        }

        int taken;

        String take() {
            String token = peek();
            taken = place();
            at = taken + token.length();
            return token;
        }

        void word(String want) {
            if (!take().equals(want)) {
                throw new Fault(2, taken);
            }
        }

        int number(int least, int most) {
            String token = take();
            if (!token.matches("[0-9]+")) {
                throw new Fault(2, taken);
            }
            int n = Integer.parseInt(token);
            if (n < least || n > most) {
                throw new Fault(4, taken);
            }
            return n;
        }

        String name() {
            String token = take();
            if (!token.matches("[a-z]{1,8}") || WORDS.contains(token)) {
                throw new Fault(2, taken);
            }
            return token;
        }

        int known(World w) {
            String name = name();
            for (int s = 0; s < w.singers.size(); s++) {
                if (w.singers.get(s).name.equals(name)) {
                    return s;
                }
            }
            throw new Fault(3, taken);
        }

        World choir() {
            World w = new World();
            boolean hums = false;
            while (!peek().isEmpty()) {
                switch (take()) {
                    case "singer" -> singer(w);
                    case "owes" -> {
                        int a = known(w);
                        int b = other(w, a);
                        int n = number(1, 99);
                        if (!w.owe(a, b, n)) {
                            throw new Fault(6, taken);
                        }
                    }
                    case "heir" -> {
                        int a = known(w);
                        w.singers.get(a).heir = other(w, a);
                    }
                    case "hums" -> {
                        if (hums) {
                            throw new Fault(5, taken);
                        }
                        hums = true;
                        w.hums = number(0, 50);
                    }
                    default -> throw new Fault(2, taken);
                }
                word(";");
            }
            return w;
        }

        int other(World w, int a) {
            int b = known(w);
            if (a == b) {
                throw new Fault(5, taken);
            }
            return b;
        }

        void singer(World w) {
            if (w.singers.size() == 8) {
                throw new Fault(6, taken);
            }
            Singer s = new Singer();
            s.name = name();
            for (Singer t : w.singers) {
                if (t.name.equals(s.name)) {
                    throw new Fault(3, taken);
                }
            }
            word("purse");
            s.purse = number(0, 999);
            List<String> voices = new ArrayList<>();
            while (Arrays.asList("bass", "cold", "deaf").contains(peek())) {
                String voice = take();
                if (voices.contains(voice)) {
                    throw new Fault(5, taken);
                }
                voices.add(voice);
            }
            s.bass = voices.contains("bass");
            s.cold = voices.contains("cold");
            s.deaf = voices.contains("deaf");
            if (peek().equals("line")) {
                take();
                List<Integer> line = new ArrayList<>();
                line.add(number(0, 24));
                while (peek().matches("[0-9]+")) {
                    int note = number(0, 24);
                    if (line.size() == 6) {
                        throw new Fault(6, taken);
                    }
                    line.add(note);
                }
                s.line = line.stream().mapToInt(Integer::intValue).toArray();
            }
            w.singers.add(s);
        }

        List<Step> years(World w) {
            List<Step> all = steps(w, 0);
            if (!peek().isEmpty()) {
                throw new Fault(2, place());
            }
            return all;
        }

        List<Step> steps(World w, int depth) {
            List<Step> all = new ArrayList<>();
            while (!peek().isEmpty() && !peek().equals("end")) {
                all.add(step(w, depth));
            }
            return all;
        }

        Step step(World w, int depth) {
            String kind = take();
            List<String> kinds = Arrays.asList("lend", "pay", "sunday", "cold", "die", "chord", "any", "when", "loop", "stop");
            if (!kinds.contains(kind)) {
                throw new Fault(2, taken);
            }
            if (steps == 30) {
                throw new Fault(6, taken);
            }
            boolean opens = kind.equals("when") || kind.equals("loop");
            if (opens && depth == 3) {
                throw new Fault(7, taken);
            }
            steps++;
            int a = 0;
            int b = 0;
            int n = 0;
            String sign = "=";
            if (kind.equals("when")) {
                kind = take();
                if (!Arrays.asList("debt", "purse", "still").contains(kind)) {
                    throw new Fault(2, taken);
                }
            }
            switch (kind) {
                case "lend", "pay", "debt" -> {
                    a = known(w);
                    word("to");
                    b = known(w);
                }
                case "cold", "die", "purse", "still" -> a = known(w);
                case "chord" -> {
                    a = known(w);
                    b = known(w);
                }
                default -> {
                }
            }
            if (kind.equals("debt") || kind.equals("purse")) {
                sign = take();
                if (!sign.matches("[<>=]")) {
                    throw new Fault(2, taken);
                }
            }
            switch (kind) {
                case "lend", "loop" -> n = number(1, 99);
                case "pay" -> n = number(1, 999);
                case "debt" -> n = number(0, 999);
                case "purse" -> n = number(0, 9999);
                default -> {
                }
            }
            word(";");
            List<Step> body = List.of();
            if (opens) {
                body = steps(w, depth + 1);
                word("end");
                word(";");
            }
            return new Step(kind, a, b, sign, n, body);
        }
    }

    World w = new World();
    final List<World> marks = new ArrayList<>();
    final Map<Integer, long[]> trays = new HashMap<>();
    final Map<Integer, Integer> sorts = new HashMap<>();
    String tape = "";
    int status;
    long top;
    long bottom = 1;
    int faultKind = -1;
    int faultPlace = -1;
    Life latest;

    private long ok(long value) {
        status = 0;
        return value;
    }

    private long no(int why) {
        status = why;
        return -1;
    }

    private long no(int why, boolean isFlag) {
        status = why;
        return 0;
    }

    private boolean known(int s) {
        return s >= 0 && s < w.singers.size();
    }

    private boolean two(int a, int b) {
        return w.alive(a) && w.alive(b) && a != b;
    }

    /** Any call by its name, booleans as 1 and 0. */
    long call(String name, int... p) {
        switch (name) {
            case "status": return status;
            case "top": return top;
            case "bottom": return bottom;
            case "fault": return p[0] == 0 ? faultKind : p[0] == 1 ? faultPlace : -1;
            case "feed": return feed(p);
            case "tray": return tray(p[0], p[1], p[2]);
            case "write": return write(p[0], p[1], p[2]);
            case "read": return read(p[0], p[1]);
            case "pour": return pour(p[0], p[1], p[2], p[3], p[4]);
            case "choir": return text(p[0], false);
            case "years": return text(p[0], true);
            case "told": return told(p[0]);
            case "singer": return singer(p[0], p[1]);
            case "line": return known(p[0]) && p[1] >= 0 && p[1] < w.singers.get(p[0]).line.length
                    ? ok(w.singers.get(p[0]).line[p[1]]) : no(1);
            case "held": return held(p[0], p[1], p[2]);
            case "owed": return known(p[0]) && known(p[1]) && p[0] != p[1] ? ok(w.owed(p[0], p[1])) : no(1);
            case "waiting": return waiting(p[0], p[1]);
            case "lived": return lived(p[0]);
            case "live": return live(p[0]);
            case "mean": return mean(p[0], p[1]);
            case "mark":
                if (marks.size() == 3) {
                    return no(4);
                }
                marks.add(w.copy());
                return ok(marks.size());
            case "undo":
                if (marks.isEmpty()) {
                    return no(6);
                }
                w = marks.remove(marks.size() - 1);
                return ok(marks.size());
            default: return isDeed(name) ? deed(name, p) : question(name, p);
        }
    }

    private static boolean isDeed(String name) {
        return Arrays.asList("lend", "pay", "chord", "sunday", "cold", "well", "die", "earn", "name", "hum", "chords", "clear")
                .contains(name);
    }

    private long feed(int[] p) {
        if (tape.length() + 20 > 900) {
            return -1;
        }
        for (int v : p) {
            for (int shift = 24; shift >= 0; shift -= 8) {
                tape += (char) (v >>> shift & 255);
            }
        }
        return tape.length();
    }

    private long tray(int tray, int sort, int many) {
        if (tray < 0 || tray > 3 || sort < 0 || sort > 3 || many < 0 || many > 60) {
            return no(1, true);
        }
        trays.put(tray, new long[many]);
        sorts.put(tray, sort);
        return ok(1);
    }

    private void put(int tray, int place, long v) {
        int bits = 8 << sorts.get(tray);
        trays.get(tray)[place] = v << 64 - bits >> 64 - bits;
    }

    private int cell(int tray, int place) {
        if (tray < 0 || tray > 3) {
            return 1;
        }
        if (!trays.containsKey(tray)) {
            return 2;
        }
        return place < 0 || place >= trays.get(tray).length ? 3 : 0;
    }

    private long write(int tray, int place, long v) {
        int why = cell(tray, place);
        if (why != 0) {
            return no(why, true);
        }
        put(tray, place, v);
        return ok(1);
    }

    private long read(int tray, int place) {
        int why = cell(tray, place);
        return why != 0 ? no(why) : ok(trays.get(tray)[place]);
    }

    private long pour(int from, int place, int to, int at, int many) {
        if (from < 0 || from > 3 || to < 0 || to > 3 || place < 0 || at < 0 || many < 0) {
            return no(1, true);
        }
        if (!trays.containsKey(from) || !trays.containsKey(to)) {
            return no(2, true);
        }
        if (!sorts.get(from).equals(sorts.get(to))) {
            return no(8, true);
        }
        if ((long) place + many > trays.get(from).length || (long) at + many > trays.get(to).length) {
            return no(3, true);
        }
        long[] were = trays.get(from).clone();
        for (int i = 0; i < many; i++) {
            trays.get(to)[at + i] = were[place + i];
        }
        return ok(1);
    }

    private long text(int n, boolean isYears) {
        if (n < 0 || n > tape.length() || isYears && n > 300) {
            return no(1);
        }
        String text = tape.substring(0, n);
        tape = "";
        try {
            Text t = new Text(text);
            if (isYears) {
                w.years = t.years(w);
                faultKind = 0;
                faultPlace = -1;
                return ok(t.steps);
            }
            w = t.choir();
            faultKind = 0;
            faultPlace = -1;
            return ok(w.singers.size());
        } catch (Fault f) {
            faultKind = f.kind;
            faultPlace = f.place;
            return no(9);
        }
    }

    private long set(java.util.function.Predicate<Singer> is) {
        int set = 0;
        for (int s = 0; s < w.singers.size(); s++) {
            set += is.test(w.singers.get(s)) ? 1 << s : 0;
        }
        return set;
    }

    private long told(int what) {
        switch (what) {
            case 0: return ok(w.singers.size());
            case 1: return ok(w.hums);
            case 2: return ok(w.sunday);
            case 3: return ok(w.debts.size() - w.waiting().size());
            case 4: return ok(w.waiting().size());
            case 5: return ok(w.sum());
            case 6: return ok(w.singers.stream().mapToInt(s -> s.purse).sum());
            case 7: return ok(w.paid);
            case 8: return ok(set(s -> s.cold));
            case 9: return ok(set(s -> s.dead));
            default: return no(1);
        }
    }

    private long singer(int s, int what) {
        if (!known(s)) {
            return no(1);
        }
        Singer one = w.singers.get(s);
        switch (what) {
            case 0: return ok(one.purse);
            case 1: return ok(one.line.length);
            case 2: return ok(one.bass ? 1 : 0);
            case 3: return ok(one.deaf ? 1 : 0);
            case 4: return one.heir < 0 ? no(6) : ok(one.heir);
            case 5: return ok(w.owes(s));
            case 6: return ok(w.isOwed(s));
            default: return no(1);
        }
    }

    private boolean hasNote(int s, int note) {
        return note >= 0 && note < w.singers.get(s).line.length;
    }

    private long held(int s, int note, int what) {
        if (!known(s) || !hasNote(s, note) || what != 0 && what != 1) {
            return no(1);
        }
        Debt d = w.at(s, note);
        return d == null ? no(6) : ok(what == 0 ? d.who : d.much);
    }

    private long waiting(int k, int what) {
        if (what < 0 || what > 2) {
            return no(1);
        }
        if (k < 0 || k >= w.waiting().size()) {
            return no(6);
        }
        Debt d = w.waiting().get(k);
        return ok(what == 0 ? d.who : what == 1 ? d.whom : d.much);
    }

    private long live(int seed) {
        if (seed < 0 || seed > 9999) {
            return no(1);
        }
        if (w.years == null) {
            return no(6);
        }
        latest = Life.of(w, seed);
        return ok(latest.steps);
    }

    private long lived(int what) {
        if (what < 0 || what > 4) {
            return no(1);
        }
        if (latest == null) {
            return no(6);
        }
        int[] all = {latest.missed, latest.lent, latest.paid, latest.sundays, latest.left};
        return ok(all[what]);
    }

    private void fraction(long over, long under) {
        for (long d = under; d >= 1; d--) {
            if (over % d == 0 && under % d == 0) {
                top = over / d;
                bottom = under / d;
                return;
            }
        }
    }

    private long mean(int seed, int many) {
        if (seed < 0 || seed > 9999 || many < 1 || many > 20 || seed + many > 10000) {
            return no(1, true);
        }
        if (w.years == null) {
            return no(6, true);
        }
        long sum = 0;
        for (int i = 0; i < many; i++) {
            World then = w.copy();
            Life.of(then, seed + i);
            sum += then.sum();
        }
        fraction(sum, many);
        return ok(1);
    }

    private long deed(String name, int[] p) {
        switch (name) {
            case "lend":
                if (!two(p[0], p[1]) || p[2] < 1 || p[2] > 99) {
                    return no(1);
                }
                return w.lend(p[0], p[1], p[2]) ? ok(w.owed(p[1], p[0])) : no(7);
            case "pay":
                if (!two(p[0], p[1]) || p[2] < 1 || p[2] > 999) {
                    return no(1);
                }
                return w.pay(p[0], p[1], p[2]) ? ok(w.owed(p[0], p[1])) : no(7);
            case "chord":
                if (!two(p[0], p[1])) {
                    return no(1);
                }
                int off = w.chord(p[0], p[1]);
                return off == 0 ? no(7) : ok(off);
            case "sunday": return w.sunday() ? ok(w.sum()) : no(4);
            case "chords": return chords();
            case "clear": return clear();
            case "hum":
                if (p[0] < 0 || p[0] > 50) {
                    return no(1, true);
                }
                w.hums = p[0];
                return ok(1);
            default: break;
        }
        if (!w.alive(p[0])) {
            return name.equals("name") ? no(1, true) : no(1);
        }
        Singer one = w.singers.get(p[0]);
        switch (name) {
            case "cold":
                int coins = w.cold(p[0]);
                return coins < 0 ? no(7) : ok(coins);
            case "well":
                if (!one.cold) {
                    return no(7);
                }
                one.cold = false;
                return ok(Long.bitCount(set(s -> s.cold)));
            case "die":
                w.die(p[0]);
                return ok(w.living().size());
            case "earn":
                if (p[1] < 1 || p[1] > 999) {
                    return no(1);
                }
                if (one.purse + p[1] > 9999) {
                    return no(7);
                }
                one.purse += p[1];
                return ok(one.purse);
            default:
                if (p[0] == p[1] || p[1] != -1 && !w.alive(p[1])) {
                    return no(1, true);
                }
                one.heir = p[1];
                return ok(1);
        }
    }

    private long chords() {
        int all = 0;
        for (int a = 0; a < w.singers.size(); a++) {
            for (int b = a + 1; b < w.singers.size(); b++) {
                all += w.chord(a, b);
            }
        }
        return ok(all);
    }

    private List<Integer> best;

    /** The shortest, then first, row from its least one on whose last owes the first. */
    private List<Integer> round() {
        best = null;
        for (int s : w.living()) {
            rounds(new ArrayList<>(List.of(s)));
        }
        return best;
    }

    private void rounds(List<Integer> row) {
        int last = row.get(row.size() - 1);
        if (row.size() >= 3 && w.owedAtNote(last, row.get(0)) > 0 && (best == null || row.size() < best.size())) {
            best = new ArrayList<>(row);
        }
        for (int s = row.get(0) + 1; s < w.singers.size(); s++) {
            if (!row.contains(s) && w.owedAtNote(last, s) > 0) {
                row.add(s);
                rounds(row);
                row.remove(row.size() - 1);
            }
        }
    }

    private long clear() {
        List<Integer> ring = round();
        if (ring == null) {
            return no(7);
        }
        List<Debt> all = new ArrayList<>();
        for (int k = 0; k < ring.size(); k++) {
            all.add(w.between(ring.get(k), ring.get((k + 1) % ring.size())));
        }
        int least = all.stream().mapToInt(Debt::much).min().getAsInt();
        for (Debt d : all) {
            w.change(d, d.much - least);
        }
        w.fillFree();
        return ok(least);
    }

    private int longest(int last, int used) {
        int most = 0;
        for (int s : w.living()) {
            if ((used >> s & 1) == 0 && (last < 0 || w.owedAtNote(last, s) > 0)) {
                most = Math.max(most, 1 + longest(s, used | 1 << s));
            }
        }
        return most;
    }

    private void reach(int s, java.util.Set<Integer> seen) {
        for (Debt d : w.debts) {
            if (d.who == s && d.note >= 0 && seen.add(d.whom)) {
                reach(d.whom, seen);
            }
        }
    }

    /** The most parts of 0: the one with the first of the rest is tried in all ways. */
    private int parts(List<Integer> rest) {
        if (rest.isEmpty()) {
            return 0;
        }
        int most = 0;
        for (int set = 1; set < 1 << rest.size(); set += 2) {
            int sum = 0;
            List<Integer> others = new ArrayList<>();
            for (int i = 0; i < rest.size(); i++) {
                if ((set >> i & 1) == 1) {
                    sum += rest.get(i);
                } else {
                    others.add(rest.get(i));
                }
            }
            if (sum == 0) {
                most = Math.max(most, 1 + parts(others));
            }
        }
        return most;
    }

    private int balance(int s) {
        return w.isOwed(s) - w.owes(s);
    }

    private int askSet() {
        int least = -1;
        for (int set = 0; set < 1 << w.singers.size(); set++) {
            int asked = set;
            boolean all = w.debts.stream().allMatch(d -> (asked >> d.who & 1) == 1 || (asked >> d.whom & 1) == 1);
            if (all && (least < 0 || Integer.bitCount(set) < Integer.bitCount(least))) {
                least = set;
            }
        }
        return least;
    }

    private long firstMost(java.util.function.IntUnaryOperator much, int many) {
        int most = -1;
        for (int i = 0; i < many; i++) {
            if (much.applyAsInt(i) > 0 && (most < 0 || much.applyAsInt(i) > much.applyAsInt(most))) {
                most = i;
            }
        }
        return most < 0 ? no(6) : ok(most);
    }

    private int free(int s) {
        return w.singers.get(s).line.length - (int) w.debts.stream().filter(d -> d.whom == s && d.note >= 0).count();
    }

    private long question(String name, int[] p) {
        int many = w.singers.size();
        List<Integer> uneven = new ArrayList<>();
        for (int s = 0; s < many; s++) {
            if (balance(s) != 0) {
                uneven.add(balance(s));
            }
        }
        switch (name) {
            case "balance": return w.alive(p[0]) ? ok(balance(p[0])) : no(1);
            case "payings": return ok(uneven.size() - parts(uneven));
            case "parts": return ok(parts(uneven));
            case "shorts":
            case "lacking":
                int set = 0;
                int lack = 0;
                for (int s = 0; s < many; s++) {
                    int have = w.singers.get(s).purse + balance(s);
                    if (have < 0) {
                        set |= 1 << s;
                        lack -= have;
                    }
                }
                return ok(name.equals("shorts") ? set : lack);
            case "richest": return firstMost(w::isOwed, many);
            case "deepest": return firstMost(w::owes, many);
            case "roomiest": return firstMost(s -> w.alive(s) ? free(s) : 0, many);
            case "bass":
                if (w.debts.isEmpty()) {
                    return no(6, true);
                }
                fraction(w.debts.stream().filter(d -> w.singers.get(d.whom).bass).mapToInt(Debt::much).sum(), w.sum());
                return ok(1);
            case "round": return round() == null ? no(6) : ok(best.size());
            case "roundAt":
                if (p[0] < 0) {
                    return no(1);
                }
                return round() == null || p[0] >= best.size() ? no(6) : ok(best.get(p[0]));
            case "ask": return ok(Integer.bitCount(askSet()));
            case "askSet": return ok(askSet());
            case "chain": return ok(longest(-1, 0));
            case "grows": return span(p[0]) && span(p[1]) ? ok(w.grow(p[0], p[1])) : no(1);
            case "before":
                if (!span(p[0]) || !span(p[1])) {
                    return no(1);
                }
                int d = 0;
                while (w.grow(d, p[1]) < p[0]) {
                    d++;
                }
                return ok(d);
            case "when":
                if (!span(p[0]) || !span(p[1])) {
                    return no(1);
                }
                for (int i = 0; i <= 999; i++) {
                    if (w.grow(p[0], i) >= p[1]) {
                        return ok(i);
                    }
                }
                return no(6);
            case "owedIn": return span(p[0]) ? ok(w.debts.stream().mapToInt(e -> w.grown(e, p[0])).sum()) : no(1);
            default: return lineQuestion(name, p);
        }
    }

    private static boolean span(int n) {
        return n >= 0 && n <= 999;
    }

    private long lineQuestion(String name, int[] p) {
        if (!w.alive(p[0])) {
            return no(1);
        }
        int s = p[0];
        int notes = w.singers.get(s).line.length;
        switch (name) {
            case "behind":
                java.util.Set<Integer> seen = new java.util.TreeSet<>();
                reach(s, seen);
                seen.remove(s);
                return ok(seen.stream().mapToInt(t -> 1 << t).sum());
            case "free": return ok(free(s));
            case "queue": return ok(w.waiting().stream().filter(d -> d.whom == s).count());
            case "falsest": return firstMost(note -> w.at(s, note) == null ? 0 : w.at(s, note).much, notes);
            case "sung": return hasNote(s, p[1]) ? ok(w.sung(s, p[1])) : no(1);
            case "whose":
                if (p[1] < 1 || p[1] > 999) {
                    return no(1);
                }
                for (int note = 0; note < notes; note++) {
                    if (w.at(s, note) != null && w.at(s, note).much == p[1]) {
                        return ok(w.at(s, note).who);
                    }
                }
                return no(6);
            default: break;
        }
        int why = cell(p[1], notes - 1);
        if (why != 0) {
            return no(why);
        }
        long[] row = trays.get(p[1]);
        if (name.equals("copySung")) {
            for (int note = 0; note < notes; note++) {
                put(p[1], note, w.sung(s, note));
            }
            return ok(notes);
        }
        long more = 0;
        List<Long> offs = new ArrayList<>();
        for (int note = 0; note < notes; note++) {
            if (row[note] < -12 || row[note] > 2000) {
                return no(5);
            }
            more += row[note] - w.singers.get(s).line[note] + (w.singers.get(s).bass ? 12 : 0);
            offs.add(row[note] - w.sung(s, note));
        }
        if (name.equals("heard")) {
            return ok(more);
        }
        if (name.equals("transposed")) {
            return offs.stream().distinct().count() == 1 ? ok(offs.get(0)) : no(6);
        }
        long off = offs.stream().filter(o -> o != 0).count();
        for (int note = 0; note < notes && off == 1; note++) {
            if (offs.get(note) != 0) {
                return ok(note);
            }
        }
        return no(6);
    }
}
