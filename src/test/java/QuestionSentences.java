/** Sentences about what is asked: balances, rounds, notes, hums (the terms' third part, promises 32 to 58). */
final class QuestionSentences {
    private static final int[] NOBODY = {-1, 8, Integer.MIN_VALUE, Integer.MAX_VALUE};

    private QuestionSentences() {
    }

    /** SINGERS a, b .. with PURSE 1 and a LINE of six NOTES each, and what follows. */
    private static FalseNotes plain(int many, String rest) {
        return Check.valley(TextSentences.singers(many).replace("purse 0 line 1", "purse 1 line 1 2 3 4 5 6") + rest);
    }

    /** c WAITS for the only NOTE of a, which b holds. */
    private static FalseNotes oneWaits(String rest) {
        return Check.valley("singer a purse 1 line 1;singer b purse 1;singer c purse 1;owes b a 4;owes c a 6;" + rest);
    }

    private static void fill(FalseNotes x, int tray, long... cells) {
        x.tray(tray, 3, cells.length);
        for (int i = 0; i < cells.length; i++) {
            x.write(tray, i, cells[i]);
        }
    }

    @Says(at = "Terms 3", words = "OWED: what stands at a NOTE, or WAITS, of the two.")
    static void owedAtANoteOrWaits() {
        FalseNotes x = oneWaits("");
        Check.given("at a NOTE", x, x.owed(1, 0), 4);
        Check.given("WAITS", x, x.owed(2, 0), 6);
        Check.given("neither", x, x.owed(0, 2), 0);
    }

    @Says(at = "Terms 3", words = "BALANCE: all that it is OWED less all it owes.")
    static void balanceWithWhatWaits() {
        FalseNotes x = oneWaits("owes a b 11;");
        Check.given("10 less 11", x, x.balance(0), -1);
        Check.given("11 less 4", x, x.balance(1), 7);
        Check.given("what WAITS is owed", x, x.balance(2), -6);
    }

    @Says(at = "Terms 3", words = "PAYINGS: the fewest payments (of any number, from anyone to anyone) by which all BALANCES are 0:")
    static void fewestPayments() {
        FalseNotes x = plain(3, "owes a b 5;owes b c 5;");
        Check.given("a pays c alone", x, x.payings(), 1);
        x = plain(4, "owes a b 3;owes c d 3;");
        Check.given("two couples", x, x.payings(), 2);
        x = plain(4, "owes a d 3;owes b d 4;owes c d 5;");
        Check.given("three pay one", x, x.payings(), 3);
        x = plain(8, "");
        Check.given("none", x, x.payings(), 0);
    }

    @Says(at = "Terms 3", words = "those that are not 0, less the most parts of them that are 0 each together.")
    static void lessTheMostParts() {
        FalseNotes x = plain(5, "owes a c 2;owes a d 5;owes b d 1;owes b e 5;");
        // a -7, b -6, c 2, d 6, e 5: b with d, a with c and e, though no DEBTS part them so
        Check.given("5 less 2", x, x.payings(), 3);
        x = plain(8, "owes a b 1;owes c d 1;owes e f 1;owes g h 1;");
        Check.given("8 less 4", x, x.payings(), 4);
        x = plain(8, "owes a b 1;owes a c 2;owes a d 4;owes a e 8;owes a f 16;owes a g 32;owes a h 64;");
        Check.given("8 less 1", x, x.payings(), 7);
        x = plain(3, "owes a b 3;owes b c 3;owes c a 3;");
        Check.given("all are 0", x, x.payings(), 0);
    }

    @Says(at = "Terms 3", words = "SHORT is a SINGER whose PURSE and BALANCE together are below 0.")
    static void shortIsBelow0() {
        FalseNotes x = Check.valley("singer a purse 4;singer b purse 5;singer c purse 6;singer d purse 0;owes a d 5;owes b d 5;owes c d 5;");
        Check.given("-1 is, 0 and 1 are not", x, x.shorts(), 1);
    }

    @Says(at = "Terms 3", words = "ROUND: SINGERS, each of whom owes the next (by a NOTE), the last the first, 3 at least:")
    static void roundsOf3AtLeast() {
        FalseNotes x = plain(4, "owes a b 1;owes b a 1;owes c d 1;owes d c 1;owes b c 1;");
        Check.refused("two are none", x, x.round(), 6);
        x = plain(3, "owes a b 1;owes b c 1;owes c a 1;");
        Check.given("three are", x, x.round(), 3);
        x = plain(3, "owes a b 1;owes b c 1;owes a c 1;");
        Check.refused("the last owes nobody", x, x.round(), 6);
        x = plain(5, "owes a b 1;owes b a 1;owes b c 1;owes c b 1;owes c d 1;owes d c 1;");
        Check.refused("to and fro is none", x, x.round(), 6);
        x = Check.valley("singer a purse 1 line 1;singer b purse 1;singer c purse 1;owes b a 1;owes a b 1;owes b c 1;owes c a 1;");
        Check.refused("what WAITS is no NOTE", x, x.round(), 6);
        x.chord(0, 1);
        Check.refused("nor is what went off", x, x.round(), 6);
        x = plain(8, "owes a h 1;owes h b 1;owes b g 1;owes g c 1;owes c f 1;owes f d 1;owes d e 1;owes e a 1;");
        Check.given("eight are", x, x.round(), 8);
    }

    private static void roundIs(FalseNotes x, int... want) {
        Check.given("round", x, x.round(), want.length);
        for (int k = 0; k < want.length; k++) {
            Check.given("roundAt " + k, x, x.roundAt(k), want[k]);
        }
    }

    @Says(at = "Terms 3", words = "the fewest; of several the first by numbers (from the least number on).")
    static void theFewestThenTheFirstRound() {
        roundIs(plain(7, "owes a b 1;owes b c 1;owes c d 1;owes d a 1;owes g f 1;owes f e 1;owes e g 1;"), 4, 6, 5);
        roundIs(plain(6, "owes d e 1;owes e f 1;owes f d 1;owes a c 1;owes c b 1;owes b a 1;"), 0, 2, 1);
        roundIs(plain(4, "owes a b 1;owes b d 1;owes d a 1;owes b c 1;owes c a 1;"), 0, 1, 2);
        roundIs(plain(4, "owes a d 1;owes d b 1;owes b a 1;owes a c 1;owes c d 1;owes d a 1;"), 0, 2, 3);
        roundIs(plain(3, "owes a b 1;owes b c 1;owes c a 1;owes b a 1;owes c b 1;owes a c 1;"), 0, 1, 2);
        roundIs(plain(5, "owes e b 1;owes b d 1;owes d e 1;"), 1, 3, 4);
    }

    @Says(at = "Terms 3", words = "CLEAR it: the least of its DEBTS goes off all of them.")
    static void clearTakesTheLeastOff() {
        FalseNotes x = plain(4, "owes a b 5;owes b c 3;owes c a 4;owes b d 9;owes d a 9;");
        Check.given("3", x, x.clear(), 3);
        Check.due("a to b", x.owed(0, 1), 2);
        Check.due("b to c is gone", x.owed(1, 2), 0);
        Check.due("c to a", x.owed(2, 0), 1);
        Check.due("others stay", x.owed(1, 3) + x.owed(3, 0), 18);
        Check.due("DEBTS at NOTES", x.told(3), 4);
        Check.given("another", x, x.clear(), 2);
        Check.refused("no more", x, x.clear(), 7);
        FalseNotes y = Check.valley("singer a purse 0 line 1;singer b purse 0;singer c purse 0;singer d purse 0;owes c a 2;owes d a 7;"
                + "owes a b 2;owes b c 2;");
        y.clear();
        Check.given("who WAITS gets the NOTE", y, y.held(0, 0, 0), 3);
        Check.due("nothing was PAID", y.told(7), 0);
    }

    @Says(at = "Terms 3", words = "ASK: the fewest SINGERS of whom one at least is in each DEBT (NOTES and WAITING);")
    static void askTheFewest() {
        FalseNotes x = plain(6, "owes a b 1;owes c b 1;owes b d 1;owes f b 1;");
        Check.given("one for all", x, x.ask(), 1);
        Check.given("b", x, x.askSet(), 2);
        x = oneWaits("owes b c 1;");
        Check.given("what WAITS must be known, too", x, x.ask(), 2);
        x.die(2);
        Check.given("one DEBT is left", x, x.ask(), 1);
        x = plain(8, "");
        Check.given("no DEBT", x, x.askSet(), 0);
    }

    @Says(at = "Terms 3", words = "of several sets the least as a number (1 for SINGER 0 ..).")
    static void askTheLeastSet() {
        FalseNotes x = plain(6, "owes b a 1;owes d c 1;owes f e 1;");
        Check.given("a, c, e", x, x.askSet(), 1 + 4 + 16);
        x = plain(3, "owes a b 1;owes b c 1;owes c a 1;");
        Check.given("a, b", x, x.askSet(), 3);
        x = plain(8, "owes h g 1;");
        Check.given("g", x, x.askSet(), 64);
    }

    @Says(at = "Terms 3", words = "GROWS: what a DEBT of n is in w SUNDAYS (0 to 999).")
    static void growsIn0To999() {
        FalseNotes x = Check.valley("hums 1;");
        Check.given("in 0", x, x.grows(1, 0), 1);
        Check.given("in 1", x, x.grows(1, 1), 2);
        Check.given("in 99", x, x.grows(1, 99), 100);
        Check.given("in 999", x, x.grows(1, 999), 999);
        Check.refused("in 1,000", x, x.grows(1, 1000), 1);
    }

    @Says(at = "Terms 3", words = "BEFORE: the least DEBT that is n at least in w SUNDAYS.")
    static void beforeIsTheLeast() {
        FalseNotes x = Check.valley("hums 10;");
        for (int n = 0; n <= 999; n += 37) {
            int least = x.before(n, 3);
            Check.due("it is " + n + " at least", x.grows(least, 3) >= n, true);
            Check.due("one less is not " + n, least == 0 || x.grows(least - 1, 3) < n, true);
        }
    }

    @Says(at = "Terms 3", words = "WHEN: in how many SUNDAYS (0 to 999) a DEBT of n is k at least.")
    static void whenIn0To999() {
        FalseNotes x = Check.valley("hums 10;");
        Check.given("more than k now", x, x.when(5, 4), 0);
        Check.given("k now", x, x.when(5, 5), 0);
        Check.given("in 1", x, x.when(5, 6), 1);
        Check.given("past k", x, x.when(20, 21), 1);
        Check.given("k just so", x, x.when(20, 22), 1);
        Check.given("one more", x, x.when(20, 23), 2);
    }

    @Says(at = "Terms 3", words = "HEARD: a TRAY tells what was SUNG in a LINE, NOTE by NOTE: how much more than its true NOTES it is, together (a BASS: 12 lower).")
    static void heardMoreThanTrue() {
        FalseNotes x = Check.valley("singer a purse 1 bass line 11 3;singer b purse 1 line 11 3;owes b a 5;");
        fill(x, 0, 4, -9);
        Check.given("a BASS", x, x.heard(0, 0), 5);
        Check.given("not a BASS", x, x.heard(1, 0), -7 - 12);
        fill(x, 0, -1, -9, 500);
        Check.given("true", x, x.heard(0, 0), 0);
        fill(x, 0, 9, -9, 2001);
        Check.given("10", x, x.heard(0, 0), 10);
    }

    @Says(at = "Terms 3", words = "TRANSPOSED: by how much all NOTES are alike off what they are SUNG now.")
    static void transposedOffWhatIsSung() {
        FalseNotes x = Check.valley("singer a purse 1 bass line 11 3;singer b purse 1 line 11;owes b a 5;");
        fill(x, 0, 4, -9);
        Check.given("not at all", x, x.transposed(0, 0), 0);
        fill(x, 0, 7, -6);
        Check.given("up by 3", x, x.transposed(0, 0), 3);
        fill(x, 0, 1, -12);
        Check.given("down by 3", x, x.transposed(0, 0), -3);
        Check.given("of one NOTE", x, x.transposed(1, 0), -10);
    }

    @Says(at = "Terms 3", words = "FORGED: the one NOTE that is off what is SUNG now.")
    static void forgedOffWhatIsSung() {
        FalseNotes x = Check.valley("singer a purse 1 bass line 11 3 9;singer b purse 1 line 11;owes b a 5;");
        fill(x, 0, 5, -9, -3);
        Check.given("the first", x, x.forged(0, 0), 0);
        fill(x, 0, 4, -9, -4);
        Check.given("the last", x, x.forged(0, 0), 2);
        fill(x, 0, 12);
        Check.given("of one NOTE", x, x.forged(1, 0), 0);
    }

    @Says(at = "Promise 32", words = "BALANCE; STATUS tells NONE from -1")
    static void balanceOfMinusOne() {
        FalseNotes x = plain(2, "owes a b 1;");
        Check.given("-1 is no NONE", x, x.balance(0), -1);
        Check.given("1", x, x.balance(1), 1);
    }

    @Says(at = "Promise 32", words = "(1).")
    static void balanceOfNobody() {
        FalseNotes x = plain(8, "");
        for (int nobody : NOBODY) {
            Check.refused("of " + nobody, x, x.balance(nobody), 1);
        }
        Check.given("of 7", x, x.balance(7), 0);
        FalseNotes y = plain(2, "");
        Check.refused("of 2", y, y.balance(2), 1);
    }

    @Says(at = "Promise 33", words = "PAYINGS.")
    static void payingsOfNobody() {
        FalseNotes x = new FalseNotes();
        Check.given("no SINGERS", x, x.payings(), 0);
        x = oneWaits("");
        Check.given("what WAITS counts", x, x.payings(), 2);
        x.die(0);
        Check.given("nothing is owed", x, x.payings(), 0);
    }

    @Says(at = "Promise 34", words = "The most parts of those with a BALANCE that are 0 each together.")
    static void partsOfNobody() {
        FalseNotes x = new FalseNotes();
        Check.given("no SINGERS", x, x.parts(), 0);
        x = plain(8, "owes a b 1;owes c d 1;owes e f 1;owes g h 1;");
        Check.given("four", x, x.parts(), 4);
        x = plain(8, "owes a b 1;owes a c 2;owes a d 4;owes a e 8;owes a f 16;owes a g 32;owes a h 64;");
        Check.given("one", x, x.parts(), 1);
        x = plain(4, "owes a b 3;owes b c 3;owes c a 3;");
        Check.given("a BALANCE of 0 is no part", x, x.parts(), 0);
    }

    @Says(at = "Promise 35", words = "The set of SINGERS that are SHORT: PURSE and BALANCE together below 0.")
    static void setOfShortOnes() {
        FalseNotes x = plain(8, "owes a b 2;owes h b 1;owes g b 3;");
        Check.given("a and g, not h with 0", x, x.shorts(), 1 + 64);
        x = oneWaits("");
        Check.given("by what WAITS, too", x, x.shorts(), 2 + 4);
        x = new FalseNotes();
        Check.given("no SINGERS", x, x.shorts(), 0);
    }

    @Says(at = "Promise 36", words = "How many coins must come so that nobody is SHORT.")
    static void lackingOfAllShortOnes() {
        FalseNotes x = plain(8, "owes a b 2;owes h b 1;owes g b 3;");
        Check.given("1, 0 and 2", x, x.lacking(), 3);
        x.earn(0, 1);
        x.earn(6, 1);
        Check.given("1", x, x.lacking(), 1);
        Check.given("g still", x, x.shorts(), 64);
        x.earn(6, 1);
        Check.given("none", x, x.lacking(), 0);
        Check.given("nobody", x, x.shorts(), 0);
        x = new FalseNotes();
        Check.given("no SINGERS", x, x.lacking(), 0);
    }

    @Says(at = "Promise 37", words = "The SINGER to whom the most is OWED, of several the first (6: nothing is).")
    static void richestOfSeveral() {
        FalseNotes x = plain(4, "owes a c 5;owes a d 5;owes a b 4;");
        Check.given("the first of two", x, x.richest(), 2);
        x = plain(4, "owes a d 1;owes b d 1;owes d a 1;");
        Check.given("together the most", x, x.richest(), 3);
        x = oneWaits("owes a b 9;");
        Check.given("by what WAITS, too", x, x.richest(), 0);
        x = plain(4, "");
        Check.refused("nothing is", x, x.richest(), 6);
    }

    @Says(at = "Promise 38", words = "The SINGER who owes the most, of several the first (6: nobody does).")
    static void deepestOfSeveral() {
        FalseNotes x = plain(4, "owes c a 5;owes d a 5;owes b a 4;");
        Check.given("the first of two", x, x.deepest(), 2);
        x = plain(4, "owes d a 1;owes d b 1;owes a d 1;");
        Check.given("together the most", x, x.deepest(), 3);
        x = oneWaits("owes a b 5;");
        Check.given("by what WAITS, too", x, x.deepest(), 2);
        x = plain(4, "");
        Check.refused("nobody does", x, x.deepest(), 6);
    }

    @Says(at = "Promise 39", words = "The FRACTION is how much of all that is owed BASSES are OWED")
    static void bassesAreOwed() {
        FalseNotes x = Check.valley("singer a purse 1 bass line 1;singer b purse 1;singer c purse 1;owes b a 4;owes c a 6;owes a b 5;");
        Check.given("10 of 15", x, x.bass());
        Check.due("2", x.top(), 2);
        Check.due("by 3", x.bottom(), 3);
        x = plain(2, "owes a b 5;");
        Check.given("0 of 5", x, x.bass());
        Check.due("0", x.top(), 0);
        Check.due("by 1", x.bottom(), 1);
        x = Check.valley("singer a purse 1 bass;singer b purse 1 bass;owes a b 5;owes b a 2;");
        Check.given("7 of 7", x, x.bass());
        Check.due("1", x.top(), 1);
        Check.due("by 1 again", x.bottom(), 1);
    }

    @Says(at = "Promise 39", words = "(6: nothing is owed).")
    static void bassOfNothing() {
        FalseNotes x = Check.valley("singer a purse 1 bass;singer b purse 9;owes b a 5;");
        x.bass();
        x.pay(1, 0, 5);
        Check.refused("nothing is owed", x, x.bass(), 6);
        Check.due("top stays", x.top(), 1);
        Check.due("bottom stays", x.bottom(), 1);
    }

    @Says(at = "Promise 40", words = "ROUND: how many SINGERS (6: none).")
    static void roundOfNone() {
        FalseNotes x = new FalseNotes();
        Check.refused("no SINGERS", x, x.round(), 6);
        x = plain(4, "owes a b 1;owes b c 1;owes c d 1;owes d a 1;");
        Check.given("four", x, x.round(), 4);
        x.die(2);
        Check.refused("three in a row", x, x.round(), 6);
    }

    @Says(at = "Promise 41", words = "The k-th SINGER of ROUND, k from 0 on (1: below 0, too; 6: no such).")
    static void roundAtFrom0On() {
        FalseNotes x = plain(4, "owes b d 1;owes d c 1;owes c b 1;");
        Check.given("0", x, x.roundAt(0), 1);
        Check.given("1", x, x.roundAt(1), 3);
        Check.given("2", x, x.roundAt(2), 2);
        Check.refused("3", x, x.roundAt(3), 6);
        Check.refused("far", x, x.roundAt(Integer.MAX_VALUE), 6);
        Check.refused("-1", x, x.roundAt(-1), 1);
        Check.refused("the lowest int", x, x.roundAt(Integer.MIN_VALUE), 1);
        x = plain(4, "");
        Check.refused("0 of none", x, x.roundAt(0), 6);
        Check.refused("-1 of none", x, x.roundAt(-1), 1);
    }

    @Says(at = "Promise 42", words = "CLEAR: ROUND is cleared: how many went off each (7: there is none).")
    static void clearOfNone() {
        FalseNotes x = new FalseNotes();
        Check.refused("no SINGERS", x, x.clear(), 7);
        x = plain(3, "owes a b 4;owes b c 4;owes c a 4;");
        Check.given("4", x, x.clear(), 4);
        Check.due("all is gone", x.told(5), 0);
        Check.refused("there is none any more", x, x.clear(), 7);
        x = plain(8, "owes a h 3;owes h b 3;owes b g 3;owes g c 3;owes c f 3;owes f d 2;owes d e 3;owes e a 3;");
        Check.given("of eight", x, x.clear(), 2);
        Check.due("seven of 1 are left", x.told(5), 7);
    }

    @Says(at = "Promise 43", words = "ASK: how many.")
    static void askOfNobody() {
        FalseNotes x = new FalseNotes();
        Check.given("no SINGERS", x, x.ask(), 0);
        x = plain(1, "");
        Check.given("one SINGER", x, x.ask(), 0);
        x = plain(8, "owes a b 1;owes c d 1;owes e f 1;owes g h 1;");
        Check.given("four", x, x.ask(), 4);
        x = plain(4, "owes a b 1;owes a c 1;owes a d 1;owes b c 1;owes b d 1;owes c d 1;");
        Check.given("all but one", x, x.ask(), 3);
    }

    @Says(at = "Promise 44", words = "The set of ASK.")
    static void askSetOfNobody() {
        FalseNotes x = new FalseNotes();
        Check.given("no SINGERS", x, x.askSet(), 0);
        x = plain(8, "owes a b 1;owes c d 1;owes e f 1;owes g h 1;");
        Check.given("a, c, e, g", x, x.askSet(), 85);
        x = plain(4, "owes d a 1;owes d b 1;owes d c 1;");
        Check.given("d", x, x.askSet(), 8);
    }

    @Says(at = "Promise 45", words = "The longest row of SINGERS, each of whom owes the next (by a NOTE), none twice: how many (0 without SINGERS).")
    static void chainOfNobody() {
        FalseNotes x = new FalseNotes();
        Check.given("no SINGERS", x, x.chain(), 0);
        x = plain(1, "");
        Check.given("one", x, x.chain(), 1);
        x = plain(8, "owes h g 1;owes g f 1;owes f e 1;owes e d 1;owes d c 1;owes c b 1;owes b a 1;");
        Check.given("eight", x, x.chain(), 8);
        x = plain(3, "owes a b 1;owes b a 1;");
        Check.given("none twice", x, x.chain(), 2);
        x = plain(3, "owes a b 1;owes b a 1;owes b c 1;");
        Check.given("the right way round", x, x.chain(), 3);
        x = plain(8, "owes a b 1;owes c d 1;owes a c 1;owes e f 1;owes g f 1;");
        Check.given("not of parts", x, x.chain(), 3);
        x = plain(5, "owes a b 1;owes b c 1;owes c a 1;owes d a 1;");
        Check.given("past a ROUND", x, x.chain(), 4);
        x = oneWaits("owes b c 1;");
        Check.given("what WAITS is no NOTE", x, x.chain(), 2);
        x.die(0);
        x.die(1);
        Check.given("one that is not DEAD", x, x.chain(), 1);
        x.die(2);
        Check.given("all are DEAD", x, x.chain(), 0);
    }

    @Says(at = "Promise 46", words = "The set of those to whom a SINGER owes something, and they, and so on (by NOTES; not itself)")
    static void behindNotItself() {
        FalseNotes x = plain(8, "owes a b 1;owes b c 1;owes c a 1;owes h g 1;owes g f 1;owes f e 1;owes e d 1;owes d c 1;");
        Check.given("not itself", x, x.behind(0), 2 + 4);
        Check.given("to the end", x, x.behind(7), 127);
        x = oneWaits("owes a b 1;");
        Check.given("what WAITS is no NOTE", x, x.behind(2), 0);
        Check.given("by NOTES", x, x.behind(1), 1);
    }

    @Says(at = "Promise 46", words = "(1).")
    static void behindNobody() {
        FalseNotes x = plain(8, "owes h a 1;");
        for (int nobody : NOBODY) {
            Check.refused("of " + nobody, x, x.behind(nobody), 1);
        }
        Check.given("of 7", x, x.behind(7), 1);
    }

    @Says(at = "Promise 47", words = "FREE NOTES of a LINE (1).")
    static void freeOfNobody() {
        FalseNotes x = plain(8, "owes b a 1;owes c a 1;owes d a 1;owes e a 1;owes f a 1;");
        Check.given("one of six", x, x.free(0), 1);
        Check.given("six", x, x.free(7), 6);
        x.earn(6, 1);
        x.lend(0, 6, 1);
        Check.given("none", x, x.free(0), 0);
        for (int nobody : NOBODY) {
            Check.refused("of " + nobody, x, x.free(nobody), 1);
        }
    }

    @Says(at = "Promise 48", words = "How many WAIT for a LINE (1).")
    static void queueOfNobody() {
        FalseNotes x = DebtSentences.eightWait();
        Check.given("six", x, x.queue(0), 6);
        Check.given("two", x, x.queue(1), 2);
        Check.given("none", x, x.queue(7), 0);
        for (int nobody : NOBODY) {
            Check.refused("of " + nobody, x, x.queue(nobody), 1);
        }
    }

    @Says(at = "Promise 49", words = "The SINGER whose LINE has the most FREE NOTES, of several the first (6: none is FREE).")
    static void roomiestOfSeveral() {
        FalseNotes x = plain(4, "owes b a 1;owes a b 1;");
        Check.given("the first of two", x, x.roomiest(), 2);
        x.die(2);
        Check.given("not a DEAD one", x, x.roomiest(), 3);
        x = Check.valley("singer a purse 0 line 1;singer b purse 0 line 1;owes a b 1;");
        Check.given("one FREE NOTE", x, x.roomiest(), 0);
        x = Check.valley("singer a purse 0 line 1;singer b purse 0 line 1;owes a b 1;owes b a 1;");
        Check.refused("none is FREE", x, x.roomiest(), 6);
        x = Check.valley("singer a purse 0;singer b purse 0 line 1;singer c purse 0 line 1;owes c b 1;owes b c 1;");
        x.die(0);
        Check.refused("none is FREE but a DEAD one's", x, x.roomiest(), 6);
        x = new FalseNotes();
        Check.refused("no SINGERS", x, x.roomiest(), 6);
    }

    @Says(at = "Promise 50", words = "The NOTE of a LINE that is sung the falsest, of several the first (1; 6: all are FREE).")
    static void falsestOfSeveral() {
        FalseNotes x = Check.valley("singer a purse 0 line 0 24 5;singer b purse 0;singer c purse 0;singer d purse 0;"
                + "owes b a 4;owes c a 5;owes d a 5;");
        Check.given("the first of two, not the highest", x, x.falsest(0), 1);
        Check.refused("all are FREE", x, x.falsest(1), 6);
        x.die(2);
        Check.given("the last", x, x.falsest(0), 2);
        for (int nobody : NOBODY) {
            Check.refused("of " + nobody, x, x.falsest(nobody), 1);
        }
        x = Check.valley("singer a purse 0 line 24;singer b purse 0;owes b a 1;");
        Check.given("by 1", x, x.falsest(0), 0);
    }

    @Says(at = "Promise 51", words = "HEARD: how much (1; 2; 3; 5: a number below -12, above 2,000; asked in this order;")
    static void heardAsksInOrder() {
        FalseNotes x = Check.valley("singer a purse 1 line 11 3;singer b purse 1;");
        Check.refused("SINGER -1", x, x.heard(-1, 0), 1);
        Check.refused("SINGER 2, MISSING", x, x.heard(2, 0), 1);
        Check.refused("TRAY -1", x, x.heard(0, -1), 1);
        Check.refused("TRAY 4", x, x.heard(0, 4), 1);
        Check.refused("MISSING", x, x.heard(0, 0), 2);
        fill(x, 0, 2001);
        Check.refused("too few, too high", x, x.heard(0, 0), 3);
        fill(x, 0, -12, 2000);
        Check.given("the least and the most", x, x.heard(0, 0), -23 + 1997);
        fill(x, 0, -13, 2000);
        Check.refused("-13", x, x.heard(0, 0), 5);
        fill(x, 0, -12, 2001);
        Check.refused("2,001", x, x.heard(0, 0), 5);
        fill(x, 0, 0, Long.MIN_VALUE);
        Check.refused("the lowest long", x, x.heard(0, 0), 5);
        fill(x, 0, 1L << 32, 0);
        Check.refused("0 as an int", x, x.heard(0, 0), 5);
    }

    @Says(at = "Promise 51", words = "below 0 too: STATUS tells NONE from -1).")
    static void heardMinusOne() {
        FalseNotes x = Check.valley("singer a purse 1 line 11 3;");
        fill(x, 0, 10, 3);
        Check.given("-1 is no NONE", x, x.heard(0, 0), -1);
        fill(x, 0, -12, -12);
        Check.given("far below 0", x, x.heard(0, 0), -38);
    }

    @Says(at = "Promise 52", words = "TRANSPOSED: by how much (1; 2; 3; 5; 6: not all alike; STATUS tells NONE from -1).")
    static void transposedRefuses() {
        FalseNotes x = Check.valley("singer a purse 1 line 11 3 7;singer b purse 1;");
        Check.refused("SINGER -1", x, x.transposed(-1, 0), 1);
        Check.refused("SINGER 2, MISSING", x, x.transposed(2, 0), 1);
        Check.refused("TRAY 4", x, x.transposed(0, 4), 1);
        Check.refused("MISSING", x, x.transposed(0, 0), 2);
        fill(x, 0, 2001, 2001);
        Check.refused("too few, too high", x, x.transposed(0, 0), 3);
        fill(x, 0, 2001, 3, 7);
        Check.refused("2,001, not alike", x, x.transposed(0, 0), 5);
        fill(x, 0, 11, 3, -13);
        Check.refused("-13, not alike", x, x.transposed(0, 0), 5);
        fill(x, 0, 11, 3, 8);
        Check.refused("the last is not alike", x, x.transposed(0, 0), 6);
        fill(x, 0, 11, 4, 7);
        Check.refused("the second is not alike", x, x.transposed(0, 0), 6);
        fill(x, 0, 12, 3, 7);
        Check.refused("the first is not alike", x, x.transposed(0, 0), 6);
        fill(x, 0, 10, 2, 6);
        Check.given("-1 is no NONE", x, x.transposed(0, 0), -1);
        fill(x, 0, 10, 2, 6, 2001);
        Check.given("what is behind the LINE does not count", x, x.transposed(0, 0), -1);
    }

    @Says(at = "Promise 53", words = "FORGED: the NOTE (1; 2; 3; 5; 6: none is off, or more than one).")
    static void forgedRefuses() {
        FalseNotes x = Check.valley("singer a purse 1 line 11 3 7;singer b purse 1;");
        Check.refused("SINGER -1", x, x.forged(-1, 0), 1);
        Check.refused("SINGER 2, MISSING", x, x.forged(2, 0), 1);
        Check.refused("TRAY 4", x, x.forged(0, 4), 1);
        Check.refused("MISSING", x, x.forged(0, 0), 2);
        fill(x, 0, 2001, 2001);
        Check.refused("too few, too high", x, x.forged(0, 0), 3);
        fill(x, 0, 2001, 3, 7);
        Check.refused("one is 2,001", x, x.forged(0, 0), 5);
        fill(x, 0, 11, 3, -13);
        Check.refused("one is -13", x, x.forged(0, 0), 5);
        fill(x, 0, 11, 3, 7);
        Check.refused("none is off", x, x.forged(0, 0), 6);
        fill(x, 0, 12, 3, 8);
        Check.refused("two are off", x, x.forged(0, 0), 6);
        fill(x, 0, 12, 4, 8);
        Check.refused("all are off", x, x.forged(0, 0), 6);
        fill(x, 0, 11, 2000, 7);
        Check.given("one is", x, x.forged(0, 0), 1);
        fill(x, 0, 11, 3, 8, -13);
        Check.given("what is behind the LINE does not count", x, x.forged(0, 0), 2);
    }

    @Says(at = "Promise 54", words = "Whose DEBT at a LINE's NOTES is just so many (1 to 999), by NOTES the first (1; 6: nobody's).")
    static void whoseOf1To999() {
        FalseNotes x = Check.valley("singer a purse 0 line 1 2 3;singer b purse 0;singer c purse 0;singer d purse 0;singer e purse 0;"
                + "owes d a 5;owes c a 5;owes b a 1;owes e a 7;");
        Check.given("by NOTES the first", x, x.whose(0, 5), 3);
        Check.given("1", x, x.whose(0, 1), 1);
        Check.refused("what WAITS is at no NOTE", x, x.whose(0, 7), 6);
        Check.refused("nobody's", x, x.whose(0, 4), 6);
        Check.refused("nobody's at a FREE LINE", x, x.whose(1, 5), 6);
        Check.refused("0", x, x.whose(1, 0), 1);
        Check.refused("-1", x, x.whose(0, -1), 1);
        Check.refused("1,000", x, x.whose(0, 1000), 1);
        Check.refused("999 can be", x, x.whose(0, 999), 6);
        x.hum(50);
        for (int i = 0; i < 20; i++) {
            x.sunday();
        }
        Check.given("999", x, x.whose(0, 999), 3);
        for (int nobody : NOBODY) {
            Check.refused("of " + nobody, x, x.whose(nobody, 5), 1);
        }
    }

    @Says(at = "Promise 55", words = "GROWS of n (0 to 999) in so many SUNDAYS (0 to 999) (1).")
    static void growsOf0To999() {
        FalseNotes x = Check.valley("hums 50;");
        Check.given("0 stays", x, x.grows(0, 999), 0);
        Check.given("999 stays", x, x.grows(999, 999), 999);
        Check.given("998", x, x.grows(998, 1), 999);
        Check.given("666", x, x.grows(666, 1), 999);
        Check.given("665", x, x.grows(665, 1), 997);
        Check.refused("-1", x, x.grows(-1, 0), 1);
        Check.refused("1,000", x, x.grows(1000, 0), 1);
        Check.refused("in -1", x, x.grows(0, -1), 1);
        Check.refused("in 1,000", x, x.grows(0, 1000), 1);
        x.hum(0);
        Check.given("HUMS 0", x, x.grows(998, 999), 998);
    }

    @Says(at = "Promise 56", words = "BEFORE: the least DEBT (0 to 999) that is n (0 to 999) at least in so many SUNDAYS (1).")
    static void beforeOf0To999() {
        FalseNotes x = Check.valley("hums 50;");
        Check.given("0", x, x.before(0, 999), 0);
        Check.given("1", x, x.before(1, 999), 1);
        Check.given("999 in 999", x, x.before(999, 999), 1);
        Check.given("999 in 0", x, x.before(999, 0), 999);
        Check.given("999 in 1", x, x.before(999, 1), 666);
        Check.refused("-1", x, x.before(-1, 0), 1);
        Check.refused("1,000", x, x.before(1000, 0), 1);
        Check.refused("in -1", x, x.before(0, -1), 1);
        Check.refused("in 1,000", x, x.before(0, 1000), 1);
        x.hum(0);
        Check.given("HUMS 0", x, x.before(999, 999), 999);
    }

    @Says(at = "Promise 57", words = "WHEN a DEBT of n (0 to 999) is k (0 to 999) at least")
    static void whenOf0To999() {
        FalseNotes x = Check.valley("hums 50;");
        Check.given("0 is 0", x, x.when(0, 0), 0);
        Check.given("999 is 999", x, x.when(999, 999), 0);
        Check.given("999 is 0 at least", x, x.when(999, 0), 0);
        Check.given("666 is 999", x, x.when(666, 999), 1);
        Check.given("665 is 999", x, x.when(665, 999), 2);
    }

    @Says(at = "Promise 57", words = "(1; 6: not in 999 SUNDAYS).")
    static void whenNever() {
        FalseNotes x = Check.valley("hums 50;");
        Check.refused("0 stays 0", x, x.when(0, 1), 6);
        Check.refused("n -1", x, x.when(-1, 0), 1);
        Check.refused("n 1,000", x, x.when(1000, 0), 1);
        Check.refused("k -1", x, x.when(0, -1), 1);
        Check.refused("k 1,000", x, x.when(0, 1000), 1);
        x.hum(0);
        Check.refused("HUMS 0", x, x.when(998, 999), 6);
        Check.given("HUMS 0, k now", x, x.when(998, 998), 0);
    }

    @Says(at = "Promise 58", words = "All that will be owed in so many SUNDAYS (0 to 999), if nothing else happens (1).")
    static void owedIn0To999() {
        FalseNotes x = Check.valley("singer a purse 1 line 1;singer b purse 1;singer c purse 0 deaf;owes b a 10;owes c a 7;owes a c 20;hums 25;");
        Check.given("in 0", x, x.owedIn(0), 37);
        Check.given("in 1", x, x.owedIn(1), 12 + 7 + 20);
        Check.given("in 999", x, x.owedIn(999), 999 + 7 + 20);
        Check.refused("in -1", x, x.owedIn(-1), 1);
        Check.refused("in 1,000", x, x.owedIn(1000), 1);
        Check.due("nothing grew", x.told(5), 37);
        Check.due("no SUNDAY came", x.told(2), 0);
        x = new FalseNotes();
        Check.given("no SINGERS", x, x.owedIn(999), 0);
    }
}
