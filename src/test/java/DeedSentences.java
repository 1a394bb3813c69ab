/** Sentences of the promises about what is done (21 to 31). */
final class DeedSentences {
    private static final String THREE = "singer a purse 50 line 1 2;singer b purse 20;singer c purse 5;";
    /** No SINGERS where there are three. */
    private static final int[] NOBODY = {-1, 3, 8, Integer.MIN_VALUE, Integer.MAX_VALUE};

    private DeedSentences() {
    }

    @Says(at = "Promise 21", words = "LEND: the first lends the second n: OWED by the second to the first then")
    static void lendTellsWhatIsOwedThen() {
        FalseNotes x = Check.valley(THREE + "owes b a 4;owes a b 30;");
        Check.given("4 and 3", x, x.lend(0, 1, 3), 7);
        Check.given("not netted", x, x.owed(0, 1), 30);
        FalseNotes y = DebtSentences.eightWait();
        Check.given("what WAITS, too", y, y.lend(0, 7, 1), 8);
    }

    @Says(at = "Promise 21", words = "(1: one and itself, n 1 to 99;")
    static void lendRefusesNumbers() {
        FalseNotes x = Check.valley(THREE);
        Check.refused("itself", x, x.lend(1, 1, 1), 1);
        for (int nobody : NOBODY) {
            Check.refused("from " + nobody, x, x.lend(nobody, 1, 1), 1);
            Check.refused("to " + nobody, x, x.lend(1, nobody, 1), 1);
        }
        for (int n : new int[] {0, -1, 100, Integer.MIN_VALUE, Integer.MAX_VALUE}) {
            Check.refused("n " + n, x, x.lend(0, 1, n), 1);
        }
        Check.due("nothing is owed", x.told(5), 0);
    }

    @Says(at = "Promise 21", words = "7).")
    static void lendThatCantBe() {
        FalseNotes x = Check.valley(THREE);
        x.cold(1);
        Check.refused("a COLD", x, x.lend(0, 1, 1), 7);
        Check.refused("6 of 5 coins", x, x.lend(2, 0, 6), 7);
        Check.refused("n 99 of 50", x, x.lend(0, 2, 99), 7);
        Check.refused("1 ahead of 7", x, x.lend(2, 0, 100), 1);
        Check.due("nothing is owed", x.told(5), 0);
    }

    @Says(at = "Promise 22", words = "PAY: the first pays the second n: OWED still")
    static void payTellsWhatIsOwedStill() {
        FalseNotes x = Check.valley(THREE + "owes a b 9;");
        Check.given("5 still", x, x.pay(0, 1, 4), 5);
        Check.given("0 still", x, x.pay(0, 1, 5), 0);
        Check.refused("not below 0", x, x.pay(0, 1, 1), 7);
    }

    @Says(at = "Promise 22", words = "(1: one and itself, n 1 to 999;")
    static void payRefusesNumbers() {
        FalseNotes x = Check.valley(THREE + "owes a b 9;");
        Check.refused("itself", x, x.pay(0, 0, 1), 1);
        for (int nobody : NOBODY) {
            Check.refused("from " + nobody, x, x.pay(nobody, 1, 1), 1);
            Check.refused("to " + nobody, x, x.pay(0, nobody, 1), 1);
        }
        for (int n : new int[] {0, -1, 1000, Integer.MIN_VALUE, Integer.MAX_VALUE}) {
            Check.refused("n " + n, x, x.pay(0, 1, n), 1);
        }
        Check.refused("n 999 is one", x, x.pay(0, 1, 999), 7);
        Check.due("nothing was PAID", x.told(7), 0);
    }

    @Says(at = "Promise 22", words = "7).")
    static void payThatCantBe() {
        FalseNotes x = Check.valley(THREE + "owes a b 9;owes c b 9;");
        Check.refused("a DEBT below n", x, x.pay(0, 1, 10), 7);
        Check.refused("fewer coins", x, x.pay(2, 1, 6), 7);
        Check.refused("no DEBT", x, x.pay(1, 0, 1), 7);
        Check.due("9 still", x.owed(0, 1), 9);
        Check.due("coins stay", x.singer(0, 0), 50);
    }

    @Says(at = "Promise 23", words = "CHORD: how many went off")
    static void chordTellsHowMany() {
        FalseNotes x = Check.valley(THREE + "owes a b 9;owes b a 1;");
        Check.given("1", x, x.chord(0, 1), 1);
        FalseNotes y = Check.valley(THREE + "owes a b 9;owes b a 99;");
        Check.given("9", y, y.chord(0, 1), 9);
        Check.due("90 is left", y.owed(1, 0), 90);
    }

    @Says(at = "Promise 23", words = "(1: one and itself, too; 7: 0).")
    static void chordOf0() {
        FalseNotes x = Check.valley(THREE + "owes a b 9;");
        Check.refused("itself", x, x.chord(0, 0), 1);
        for (int nobody : NOBODY) {
            Check.refused("of " + nobody, x, x.chord(nobody, 1), 1);
            Check.refused("with " + nobody, x, x.chord(1, nobody), 1);
        }
        Check.refused("one owes alone", x, x.chord(0, 1), 7);
        Check.refused("the other way", x, x.chord(1, 0), 7);
        Check.refused("nobody owes", x, x.chord(1, 2), 7);
        Check.due("9 still", x.owed(0, 1), 9);
    }

    @Says(at = "Promise 24", words = "SUNDAY: all that is owed then")
    static void sundayTellsAllThatIsOwed() {
        FalseNotes x = Check.valley("singer a purse 0 line 1;singer b purse 0;singer c purse 0;owes b a 10;owes c a 20;hums 10;");
        Check.given("11, and 20 that WAIT", x, x.sunday(), 31);
        FalseNotes y = new FalseNotes();
        Check.given("of no SINGERS", y, y.sunday(), 0);
        Check.due("SUNDAY 1", y.told(2), 1);
    }

    @Says(at = "Promise 24", words = "(4: 9,999).")
    static void sundayBehind9999() {
        FalseNotes x = new FalseNotes();
        Check.years(x, "loop 99;sunday;sunday;sunday;end;");
        for (int i = 0; i < 33; i++) {
            x.live(0);
        }
        Check.years(x, "loop 99;sunday;sunday;end;");
        x.live(0);
        Check.due("9,999", x.told(2), 9999);
        Check.refused("one too many", x, x.sunday(), 4);
        Check.choir(x, "");
        Check.given("another CHOIR", x, x.sunday(), 0);
    }

    @Says(at = "Promise 25", words = "COLD: how many coins were PAID")
    static void coldTellsHowMany() {
        FalseNotes x = Check.valley(THREE + "owes b a 9;owes b c 9;owes c a 9;");
        Check.given("18 of 20", x, x.cold(1), 18);
        Check.given("9 of 14", x, x.cold(2), 9);
        Check.given("none is owed", x, x.cold(0), 0);
    }

    @Says(at = "Promise 25", words = "(1; 7: it has one).")
    static void coldOfWhoHasOne() {
        FalseNotes x = Check.valley(THREE);
        for (int nobody : NOBODY) {
            Check.refused("of " + nobody, x, x.cold(nobody), 1);
        }
        x.cold(0);
        Check.refused("it has one", x, x.cold(0), 7);
        Check.due("the set", x.told(8), 1);
    }

    @Says(at = "Promise 26", words = "It is WELL: how many have a COLD still")
    static void wellTellsHowMany() {
        FalseNotes x = Check.valley(THREE);
        x.cold(0);
        x.cold(1);
        x.cold(2);
        Check.given("two still", x, x.well(1), 2);
        Check.given("one still", x, x.well(0), 1);
        Check.given("none", x, x.well(2), 0);
    }

    @Says(at = "Promise 26", words = "(1; 7: it has none).")
    static void wellOfWhoHasNone() {
        FalseNotes x = Check.valley(THREE);
        x.cold(0);
        for (int nobody : NOBODY) {
            Check.refused("of " + nobody, x, x.well(nobody), 1);
        }
        Check.refused("it has none", x, x.well(1), 7);
        x.well(0);
        Check.refused("it has none any more", x, x.well(0), 7);
    }

    @Says(at = "Promise 27", words = "DIE: how many SINGERS are not DEAD then (1).")
    static void dieTellsHowMany() {
        FalseNotes x = Check.valley(THREE);
        for (int nobody : NOBODY) {
            Check.refused("of " + nobody, x, x.die(nobody), 1);
        }
        Check.given("two", x, x.die(1), 2);
        Check.refused("DEAD already", x, x.die(1), 1);
        Check.given("one", x, x.die(0), 1);
        Check.given("none", x, x.die(2), 0);
        Check.refused("all are DEAD", x, x.die(2), 1);
    }

    @Says(at = "Promise 28", words = "A SINGER gets so many coins (1 to 999): the PURSE then")
    static void earn1To999() {
        FalseNotes x = Check.valley(THREE);
        Check.given("1", x, x.earn(2, 1), 6);
        Check.given("999", x, x.earn(2, 999), 1005);
        for (int much : new int[] {0, -1, 1000, Integer.MIN_VALUE, Integer.MAX_VALUE}) {
            Check.refused("much " + much, x, x.earn(2, much), 1);
        }
        Check.due("1,005 still", x.singer(2, 0), 1005);
    }

    @Says(at = "Promise 28", words = "(1; 7: above 9,999).")
    static void earnAbove9999() {
        FalseNotes x = Check.valley(THREE);
        for (int nobody : NOBODY) {
            Check.refused("of " + nobody, x, x.earn(nobody, 1), 1);
        }
        DebtSentences.enrich(x, 0, 9001);
        Check.refused("to 10,000", x, x.earn(0, 999), 7);
        Check.given("to 9,999", x, x.earn(0, 998), 9999);
        Check.refused("above", x, x.earn(0, 1), 7);
        Check.refused("1 ahead of 7", x, x.earn(0, 1000), 1);
        Check.due("9,999 still", x.singer(0, 0), 9999);
    }

    @Says(at = "Promise 29", words = "A SINGER has another HEIR from now on, or none (NONE)")
    static void nameAnotherHeirOrNone() {
        FalseNotes x = Check.valley(THREE + "heir a b;");
        Check.given("another", x, x.name(0, 2));
        Check.given("told", x, x.singer(0, 4), 2);
        Check.given("none", x, x.name(0, FalseNotes.NONE));
        Check.refused("told none", x, x.singer(0, 4), 6);
        Check.given("none again", x, x.name(0, -1));
        Check.given("each other's", x, x.name(0, 1));
        Check.given("each other's", x, x.name(1, 0));
    }

    @Says(at = "Promise 29", words = "(1: itself, too).")
    static void nameItself() {
        FalseNotes x = Check.valley(THREE + "heir a b;");
        Check.refused("itself", x, x.name(0, 0), 1);
        Check.refused("-2", x, x.name(0, -2), 1);
        Check.refused("SINGER 3", x, x.name(0, 3), 1);
        Check.refused("of SINGER 3", x, x.name(3, 0), 1);
        Check.refused("of SINGER 3, none", x, x.name(3, -1), 1);
        Check.refused("of SINGER -1, none", x, x.name(-1, -1), 1);
        Check.given("the old one stays", x, x.singer(0, 4), 1);
    }

    @Says(at = "Promise 30", words = "HUMS from now on (0 to 50) (1).")
    static void humOf0To50() {
        FalseNotes x = Check.valley("hums 7;");
        Check.refused("-1", x, x.hum(-1), 1);
        Check.refused("51", x, x.hum(51), 1);
        Check.due("7 still", x.told(1), 7);
        Check.given("50", x, x.hum(50));
        Check.due("50 from now on", x.grows(2, 1), 3);
        Check.given("0", x, x.hum(0));
        Check.due("0 from now on", x.grows(2, 1), 2);
    }

    @Says(at = "Promise 31", words = "All that can be netted by CHORDS, couple by couple by numbers, goes off: how many went off in all (each counted once).")
    static void chordsOfAllCouples() {
        FalseNotes x = Check.valley(THREE + "owes a b 9;owes b a 4;owes c b 1;owes b c 7;owes a c 2;owes c a 3;");
        Check.given("4, 2 and 1", x, x.chords(), 7);
        Check.due("a to b", x.owed(0, 1), 5);
        Check.due("b to c", x.owed(1, 2), 6);
        Check.due("c to a", x.owed(2, 0), 1);
        Check.due("all", x.told(5), 12);
        Check.given("none more", x, x.chords(), 0);
        Check.due("nothing was PAID", x.told(7), 0);
        x.die(1);
        Check.given("of a DEAD one nothing", x, x.chords(), 0);
        FalseNotes y = new FalseNotes();
        Check.given("of no SINGERS", y, y.chords(), 0);
        FalseNotes z = Check.valley("singer a purse 0 line 1;singer b purse 0;singer c purse 0;owes b a 5;owes c a 3;owes a b 5;owes a c 2;");
        Check.given("who WAITED is netted with the NOTE it got", z, z.chords(), 7);
        Check.due("1 is left", z.told(5), 1);
    }
}
