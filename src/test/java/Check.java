/** What the tests share: counting wrong answers, and feeding texts. */
final class Check {
    private static int wrong = 0;
    private static int asked = 0;
    private static String about = "";

    private Check() {
    }

    /** What stands ahead of each line that is printed from now on. */
    static void about(String words) {
        about = words;
    }

    static int asked() {
        return asked;
    }

    static void due(String what, long got, long want) {
        asked++;
        if (got != want) {
            wrong++;
            if (wrong <= 50) {
                System.out.println(about + what + " answered " + got + ", due is " + want);
            }
        }
    }

    static void due(String what, boolean got, boolean want) {
        due(what, got ? 1 : 0, want ? 1 : 0);
    }

    /** Two rows of answers, told as far as where they part. */
    static void due(String what, String got, String want) {
        asked++;
        if (!got.equals(want)) {
            wrong++;
            int i = 0;
            while (i < got.length() && i < want.length() && got.charAt(i) == want.charAt(i)) {
                i++;
            }
            System.out.println(about + what + " parts behind \"" + got.substring(Math.max(0, i - 60), i) + "\"");
        }
    }

    /** A refused call: NONE, and the STATUS that tells why. */
    static void refused(String what, FalseNotes x, long got, int why) {
        due(what, got, FalseNotes.NONE);
        due(what + " STATUS", x.status(), why);
    }

    static void refused(String what, FalseNotes x, boolean got, int why) {
        due(what, got, false);
        due(what + " STATUS", x.status(), why);
    }

    /** An answer of -1 that is no NONE. */
    static void given(String what, FalseNotes x, long got, long want) {
        due(what, got, want);
        due(what + " STATUS", x.status(), 0);
    }

    static void given(String what, FalseNotes x, boolean got) {
        due(what, got, true);
        due(what + " STATUS", x.status(), 0);
    }

    static int feed(FalseNotes x, String text) {
        int many = 0;
        for (int i = 0; i < text.length(); i += 20) {
            many = x.feed(four(text, i), four(text, i + 4), four(text, i + 8), four(text, i + 12), four(text, i + 16));
        }
        return many;
    }

    private static int four(String text, int from) {
        int word = 0;
        for (int i = from; i < from + 4; i++) {
            word = word << 8 | (i < text.length() ? text.charAt(i) & 255 : 0);
        }
        return word;
    }

    static int choir(FalseNotes x, String text) {
        feed(x, text);
        return x.choir(text.length());
    }

    static int years(FalseNotes x, String text) {
        feed(x, text);
        return x.years(text.length());
    }

    static FalseNotes valley(String text) {
        FalseNotes x = new FalseNotes();
        due("choir of " + text, choir(x, text) >= 0, true);
        return x;
    }

    static void choirFault(String text, int kind, int place) {
        FalseNotes x = new FalseNotes();
        refused("choir: " + text, x, choir(x, text), 9);
        due("fault(0) of " + text, x.fault(0), kind);
        due("fault(1) of " + text, x.fault(1), place);
        due("tape behind a FAULT", feed(x, "a"), 20);
    }

    static void yearsFault(FalseNotes x, String text, int kind, int place) {
        refused("years: " + text, x, years(x, text), 9);
        due("fault(0) of " + text, x.fault(0), kind);
        due("fault(1) of " + text, x.fault(1), place);
    }

    static void end() {
        if (wrong != 0) {
            System.out.println(wrong + " of " + asked + " answers are not as due");
            System.exit(1);
        }
        System.out.println(asked + " answers are as due");
    }
}
