/** Sentences about what is told of a CHOIR (promises 13 to 20). */
final class ToldSentences {
    /** b holds a NOTE of a, c too, d WAITS for one; a holds one of b, one of d. */
    static final String FOUR = "singer a purse 50 line 5 7;singer b purse 20 bass;singer c purse 0 cold line 1;"
            + "singer d purse 9 deaf;owes b a 10;owes c a 4;owes d a 6;owes a b 3;owes a d 7;heir b c;hums 10;";

    private ToldSentences() {
    }

    private static void toldIs(FalseNotes x, int... want) {
        for (int what = 0; what < want.length; what++) {
            Check.given("told " + what, x, x.told(what), want[what]);
        }
    }

    @Says(at = "Promise 13", words = "How many SINGERS with DEAD ones (what 0); HUMS (1); the SUNDAY (2); DEBTS at NOTES (3), WAITING (4);")
    static void toldWithDeadOnes() {
        FalseNotes x = Check.valley(FOUR);
        toldIs(x, 4, 10, 0, 4, 1);
        x.sunday();
        x.hum(50);
        x.die(1);
        toldIs(x, 4, 50, 1, 3, 0);
        x.die(0);
        x.die(2);
        x.die(3);
        toldIs(x, 4, 50, 1, 0, 0);
    }

    @Says(at = "Promise 13", words = "all that is owed (5); all coins (6); all that was PAID (7);")
    static void toldSums() {
        FalseNotes x = Check.valley(FOUR);
        Check.due("owed, with what WAITS", x.told(5), 30);
        Check.due("coins", x.told(6), 79);
        x.pay(0, 1, 1);
        x.pay(0, 1, 2);
        x.cold(1);
        Check.due("PAID by a COLD, too", x.told(7), 13);
        Check.due("owed then", x.told(5), 17);
        Check.due("coins are as many", x.told(6), 79);
        x.chord(0, 3);
        Check.due("a CHORD is no PAYING", x.told(7), 13);
        x.earn(0, 5);
        Check.due("earned", x.told(6), 84);
    }

    @Says(at = "Promise 13", words = "sets of SINGERS (1 for SINGER 0 ..) with a COLD (8), DEAD (9)")
    static void toldSets() {
        FalseNotes x = Check.valley(TextSentences.singers(8));
        x.cold(0);
        x.cold(7);
        Check.due("COLD 0 and 7", x.told(8), 129);
        x.die(7);
        x.die(1);
        Check.due("COLD 0", x.told(8), 1);
        Check.due("DEAD 1 and 7", x.told(9), 130);
    }

    @Says(at = "Promise 13", words = "(1).")
    static void toldOfNone() {
        FalseNotes x = Check.valley(FOUR);
        for (int what : new int[] {-1, 10, Integer.MIN_VALUE, Integer.MAX_VALUE}) {
            Check.refused("what " + what, x, x.told(what), 1);
        }
        Check.given("what 9", x, x.told(9), 0);
        Check.given("what 0", x, x.told(0), 4);
    }

    @Says(at = "Promise 14", words = "Of a SINGER, what 0: the PURSE, 1: how many NOTES its LINE has, 2: 1 for a BASS, else 0, 3: 1 for a DEAF one,")
    static void singerTold() {
        FalseNotes x = Check.valley(FOUR);
        int[][] want = {{50, 2, 0, 0}, {20, 3, 1, 0}, {0, 1, 0, 0}, {9, 3, 0, 1}};
        for (int s = 0; s < 4; s++) {
            for (int what = 0; what < 4; what++) {
                Check.given("singer " + s + " " + what, x, x.singer(s, what), want[s][what]);
            }
        }
    }

    @Says(at = "Promise 14", words = "4: its HEIR (6: none),")
    static void singerWithoutHeir() {
        FalseNotes x = Check.valley(FOUR);
        Check.given("its HEIR", x, x.singer(1, 4), 2);
        Check.refused("none", x, x.singer(0, 4), 6);
        x.name(3, 0);
        Check.given("SINGER 0 is one", x, x.singer(3, 4), 0);
        x.name(3, -1);
        Check.refused("none from now on", x, x.singer(3, 4), 6);
    }

    @Says(at = "Promise 14", words = "5: all it owes, 6: all it is OWED")
    static void singerOwesAndIsOwed() {
        FalseNotes x = Check.valley(FOUR);
        int[][] want = {{10, 20}, {10, 3}, {4, 0}, {6, 7}};
        for (int s = 0; s < 4; s++) {
            Check.given("owes " + s, x, x.singer(s, 5), want[s][0]);
            Check.given("is OWED " + s, x, x.singer(s, 6), want[s][1]);
        }
    }

    @Says(at = "Promise 14", words = "(1).")
    static void singerOfNone() {
        FalseNotes x = Check.valley(FOUR);
        Check.refused("SINGER -1", x, x.singer(-1, 0), 1);
        Check.refused("SINGER 4 of 4", x, x.singer(4, 0), 1);
        Check.refused("what -1", x, x.singer(0, -1), 1);
        Check.refused("what 7", x, x.singer(0, 7), 1);
        Check.refused("no SINGER's HEIR", x, x.singer(4, 4), 1);
        FalseNotes y = new FalseNotes();
        Check.refused("SINGER 0 of none", y, y.singer(0, 0), 1);
    }

    @Says(at = "Promise 15", words = "A NOTE of a LINE, as true")
    static void lineIsTrue() {
        FalseNotes x = Check.valley(FOUR);
        Check.given("with a DEBT there", x, x.line(0, 0), 5);
        Check.given("of a BASS", x, x.line(1, 0), 12);
        Check.given("the last of three", x, x.line(3, 2), 16);
    }

    @Says(at = "Promise 15", words = "(1).")
    static void lineOfNone() {
        FalseNotes x = Check.valley(FOUR);
        Check.refused("SINGER -1", x, x.line(-1, 0), 1);
        Check.refused("SINGER 4", x, x.line(4, 0), 1);
        Check.refused("NOTE -1", x, x.line(0, -1), 1);
        Check.refused("NOTE 2 of 2", x, x.line(0, 2), 1);
        Check.refused("NOTE 1 of 1", x, x.line(2, 1), 1);
    }

    @Says(at = "Promise 16", words = "Who holds a NOTE (what 0), the DEBT there (1)")
    static void heldByWhom() {
        FalseNotes x = Check.valley(FOUR);
        Check.given("who", x, x.held(0, 1, 0), 2);
        Check.given("how much", x, x.held(0, 1, 1), 4);
        Check.given("SINGER 0 holds", x, x.held(3, 0, 0), 0);
    }

    @Says(at = "Promise 16", words = "(1; 6: it is FREE).")
    static void heldThatIsFree() {
        FalseNotes x = Check.valley(FOUR);
        Check.refused("FREE: who", x, x.held(1, 1, 0), 6);
        Check.refused("FREE: how much", x, x.held(2, 0, 1), 6);
        Check.refused("SINGER -1", x, x.held(-1, 0, 0), 1);
        Check.refused("SINGER 4", x, x.held(4, 0, 0), 1);
        Check.refused("NOTE -1", x, x.held(0, -1, 0), 1);
        Check.refused("NOTE 1 of 1", x, x.held(2, 1, 0), 1);
        Check.refused("what -1", x, x.held(0, 0, -1), 1);
        Check.refused("what 2", x, x.held(0, 0, 2), 1);
        Check.refused("what 2 of a FREE one", x, x.held(1, 1, 2), 1);
    }

    @Says(at = "Promise 17", words = "OWED by the first to the second")
    static void owedByTheFirst() {
        FalseNotes x = Check.valley(FOUR);
        Check.given("at a NOTE", x, x.owed(1, 0), 10);
        Check.given("the other way", x, x.owed(0, 1), 3);
        Check.given("what WAITS", x, x.owed(3, 0), 6);
        Check.given("nothing", x, x.owed(2, 3), 0);
    }

    @Says(at = "Promise 17", words = "(1: one and itself, too).")
    static void owedByOneToItself() {
        FalseNotes x = Check.valley(FOUR);
        Check.refused("itself", x, x.owed(2, 2), 1);
        Check.refused("SINGER -1", x, x.owed(-1, 0), 1);
        Check.refused("SINGER 4", x, x.owed(4, 0), 1);
        Check.refused("to SINGER -1", x, x.owed(0, -1), 1);
        Check.refused("to SINGER 4", x, x.owed(0, 4), 1);
    }

    @Says(at = "Promise 18", words = "Of what WAITS, the k-th from 0 on, what 0: who, 1: to whom, 2: how many")
    static void waitingFrom0On() {
        FalseNotes x = Check.valley(TextSentences.singers(5) + "owes b a 1;owes e a 5;owes c a 3;owes d a 4;");
        int[][] want = {{4, 0, 5}, {2, 0, 3}, {3, 0, 4}};
        for (int k = 0; k < 3; k++) {
            for (int what = 0; what < 3; what++) {
                Check.given("waiting " + k + " " + what, x, x.waiting(k, what), want[k][what]);
            }
        }
    }

    @Says(at = "Promise 18", words = "(1: what; 6: no such).")
    static void waitingOfNone() {
        FalseNotes x = Check.valley(FOUR);
        Check.refused("the second of one", x, x.waiting(1, 0), 6);
        Check.refused("below 0", x, x.waiting(-1, 2), 6);
        Check.refused("far", x, x.waiting(Integer.MAX_VALUE, 0), 6);
        Check.refused("what -1", x, x.waiting(0, -1), 1);
        Check.refused("what 3", x, x.waiting(0, 3), 1);
        Check.refused("what ahead of no such", x, x.waiting(1, 3), 1);
        x.pay(1, 0, 10);
        Check.refused("the first of none", x, x.waiting(0, 0), 6);
    }

    @Says(at = "Promise 19", words = "What is SUNG at a NOTE; STATUS tells NONE from -1")
    static void sungMinusOne() {
        FalseNotes x = Check.valley("singer a purse 0 bass line 11 0 12;singer b purse 0 line 24;owes b a 1;owes a b 99;");
        Check.given("0", x, x.sung(0, 0), 0);
        Check.given("-12", x, x.sung(0, 1), -12);
        Check.given("24 and 99", x, x.sung(1, 0), 123);
        FalseNotes y = Check.valley("singer a purse 0 bass line 11;");
        Check.given("-1 is no NONE", y, y.sung(0, 0), -1);
    }

    @Says(at = "Promise 19", words = "(1).")
    static void sungOfNone() {
        FalseNotes x = Check.valley(FOUR);
        Check.refused("SINGER -1", x, x.sung(-1, 0), 1);
        Check.refused("SINGER 4", x, x.sung(4, 0), 1);
        Check.refused("NOTE -1", x, x.sung(0, -1), 1);
        Check.refused("NOTE 2 of 2", x, x.sung(0, 2), 1);
    }

    @Says(at = "Promise 20", words = "What is SUNG in a LINE comes to a TRAY, NOTE by NOTE: how many")
    static void copySungNoteByNote() {
        FalseNotes x = Check.valley(FOUR);
        x.tray(1, 2, 4);
        x.write(1, 3, 77);
        Check.given("three", x, x.copySung(1, 1), 3);
        int[] want = {3, 2, 4, 77};
        for (int i = 0; i < 4; i++) {
            Check.given("place " + i, x, x.read(1, i), want[i]);
        }
        FalseNotes y = Check.valley("singer a purse 0 line 24;singer b purse 0;owes b a 99;owes b a 5;");
        y.tray(0, 0, 1);
        Check.given("one", y, y.copySung(0, 0), 1);
        Check.given("128, cut to 8 bits", y, y.read(0, 0), -128);
    }

    @Says(at = "Promise 20", words = "(1; 2; 3; asked in this order).")
    static void copySungAsksInOrder() {
        FalseNotes x = Check.valley(FOUR);
        Check.refused("no SINGER, MISSING", x, x.copySung(-1, 0), 1);
        Check.refused("SINGER 4", x, x.copySung(4, 0), 1);
        Check.refused("TRAY -1", x, x.copySung(0, -1), 1);
        Check.refused("TRAY 4", x, x.copySung(0, 4), 1);
        Check.refused("MISSING", x, x.copySung(0, 0), 2);
        x.tray(0, 3, 1);
        x.write(0, 0, 7);
        Check.refused("one for two", x, x.copySung(0, 0), 3);
        Check.given("it stays", x, x.read(0, 0), 7);
        x.tray(0, 3, 0);
        Check.refused("none for one", x, x.copySung(2, 0), 3);
        x.tray(0, 3, 2);
        Check.given("two for two", x, x.copySung(0, 0), 2);
    }
}
