/** Sentences of the terms about DEBTS and what is done (the terms' second part). */
final class DebtSentences {
    private static final String THREE = "singer a purse 50 line 1 2;singer b purse 20;singer c purse 5;";

    private DebtSentences() {
    }

    /** Fills a PURSE up to so many coins. */
    static void enrich(FalseNotes x, int singer, int coins) {
        for (int left = coins - x.singer(singer, 0); left > 0; left -= 999) {
            x.earn(singer, Math.min(999, left));
        }
        Check.due("PURSE of " + singer, x.singer(singer, 0), coins);
    }

    /** The first lends the second so many, by 99 at a time. */
    private static void lendMuch(FalseNotes x, int from, int to, int much) {
        for (int left = much; left > 0; left -= 99) {
            x.lend(from, to, Math.min(99, left));
        }
        Check.due("OWED by " + to, x.owed(to, from), much);
    }

    /** 8 WAIT: six for the NOTE of a, which b holds, two for that of b, which a holds; all have 100 coins. */
    static FalseNotes eightWait() {
        FalseNotes x = Check.valley(TextSentences.singers(8).replace("purse 0", "purse 100")
                + "owes b a 1;owes c a 2;owes d a 3;owes e a 4;owes f a 5;owes g a 6;owes h a 7;owes a b 8;owes c b 9;owes d b 10;");
        Check.due("8 WAIT", x.told(4), 8);
        return x;
    }

    @Says(at = "Terms 2", words = "A NOTE of a LINE is FREE, or held by a DEBTOR, whose DEBT (1 to 999) stands there: owed to the SINGER of the LINE.")
    static void aDebtOf1To999() {
        FalseNotes x = Check.valley("singer a purse 999;singer b purse 0;");
        Check.refused("FREE", x, x.held(0, 0, 0), 6);
        Check.given("1", x, x.lend(0, 1, 1), 1);
        Check.given("who", x, x.held(0, 0, 0), 1);
        Check.given("how much", x, x.held(0, 0, 1), 1);
        for (int i = 0; i < 10; i++) {
            x.lend(0, 1, 99);
        }
        Check.given("8 more", x, x.lend(0, 1, 8), 999);
        Check.given("999", x, x.held(0, 0, 1), 999);
        x.earn(0, 1);
        Check.refused("1,000", x, x.lend(0, 1, 1), 7);
    }

    @Says(at = "Terms 2", words = "WAITING: at most 8 DEBTS (who, to whom, how many) for which there was no NOTE, in the order in which they came.")
    static void atMost8Wait() {
        FalseNotes x = eightWait();
        int[][] want = {{2, 0, 2}, {3, 0, 3}, {4, 0, 4}, {5, 0, 5}, {6, 0, 6}, {7, 0, 7}, {2, 1, 9}, {3, 1, 10}};
        for (int k = 0; k < 8; k++) {
            for (int what = 0; what < 3; what++) {
                Check.given("waiting " + k, x, x.waiting(k, what), want[k][what]);
            }
        }
        Check.refused("a ninth", x, x.lend(1, 4, 1), 7);
    }

    @Says(at = "Terms 2", words = "LEND n (1 to 99):")
    static void lendOf1To99() {
        FalseNotes x = Check.valley("singer a purse 999;singer b purse 0;");
        Check.refused("0", x, x.lend(0, 1, 0), 1);
        Check.refused("-1", x, x.lend(0, 1, -1), 1);
        Check.refused("100", x, x.lend(0, 1, 100), 1);
        Check.given("1", x, x.lend(0, 1, 1), 1);
        Check.given("99", x, x.lend(0, 1, 99), 100);
    }

    @Says(at = "Terms 2", words = "if who borrows holds a NOTE in the LINE of who lends: that DEBT is n more (999 at most: else it can't be);")
    static void lendMoreAtANote() {
        FalseNotes x = Check.valley("singer a purse 999;singer b purse 0;");
        lendMuch(x, 0, 1, 990);
        x.earn(0, 500);
        Check.refused("to 1,000", x, x.lend(0, 1, 10), 7);
        Check.due("coins stay", x.singer(0, 0), 509);
        Check.due("the other's, too", x.singer(1, 0), 990);
        Check.given("to 999", x, x.lend(0, 1, 9), 999);
        Check.given("one NOTE is held", x, x.told(3), 1);
    }

    @Says(at = "Terms 2", words = "else, if it WAITS for that LINE already, what WAITS is n more (999 at most: else it can't be);")
    static void lendMoreOfWhatWaits() {
        FalseNotes x = eightWait();
        Check.given("8 WAIT, more of one", x, x.lend(1, 3, 5), 15);
        Check.given("in its place", x, x.waiting(7, 2), 15);
        enrich(x, 1, 2000);
        lendMuchMore(x, 975);
        Check.refused("to 1,000", x, x.lend(1, 3, 10), 7);
        Check.given("it stays", x, x.waiting(7, 2), 990);
        Check.given("to 999", x, x.lend(1, 3, 9), 999);
        Check.due("8 WAIT still", x.told(4), 8);
    }

    private static void lendMuchMore(FalseNotes x, int much) {
        for (int left = much; left > 0; left -= 99) {
            x.lend(1, 3, Math.min(99, left));
        }
    }

    @Says(at = "Terms 2", words = "else the first FREE NOTE is its;")
    static void lendAtTheFirstFreeNote() {
        FalseNotes x = Check.valley("singer a purse 50;singer b purse 0;singer c purse 0;singer d purse 0;owes b a 1;owes c a 2;owes d a 3;");
        x.earn(1, 1);
        x.earn(2, 2);
        x.pay(2, 0, 2);
        x.pay(1, 0, 1);
        x.lend(0, 2, 7);
        Check.given("the first of two", x, x.held(0, 0, 0), 2);
        x.lend(0, 1, 8);
        Check.given("then the other", x, x.held(0, 1, 0), 1);
        Check.given("the last one stays", x, x.held(0, 2, 0), 3);
    }

    @Says(at = "Terms 2", words = "else it WAITS; it can't be if 8 WAIT.")
    static void lendCantBeIf8Wait() {
        FalseNotes x = eightWait();
        Check.refused("a ninth", x, x.lend(1, 7, 1), 7);
        Check.due("coins stay", x.singer(7, 0), 100);
        Check.due("coins of who lends stay", x.singer(1, 0), 100);
        Check.given("a FREE NOTE elsewhere", x, x.lend(2, 7, 1), 1);
        Check.given("one is PAID", x, x.pay(1, 0, 1), 0);
        Check.due("7 WAIT", x.told(4), 7);
        Check.given("an eighth", x, x.lend(1, 7, 1), 1);
        Check.given("WAITS last", x, x.waiting(7, 0), 7);
    }

    @Says(at = "Terms 2", words = "n coins go from the PURSE of who lends (it can't be with fewer)")
    static void lendWithFewerCoins() {
        FalseNotes x = Check.valley(THREE);
        Check.refused("6 of 5", x, x.lend(2, 0, 6), 7);
        Check.given("5 of 5", x, x.lend(2, 0, 5), 5);
        Check.due("none is left", x.singer(2, 0), 0);
        Check.due("they went over", x.singer(0, 0), 55);
        Check.refused("1 of 0", x, x.lend(2, 0, 1), 7);
        Check.due("nothing more is owed", x.owed(0, 2), 5);
    }

    @Says(at = "Terms 2", words = "to the other's (9,999 at most: else it can't be).")
    static void lendToAFullPurse() {
        FalseNotes x = Check.valley(THREE);
        enrich(x, 1, 9990);
        Check.refused("to 10,000", x, x.lend(0, 1, 10), 7);
        Check.due("nothing is owed", x.owed(1, 0), 0);
        Check.refused("no NOTE is held", x, x.held(0, 0, 0), 6);
        Check.given("to 9,999", x, x.lend(0, 1, 9), 9);
        Check.due("9,999", x.singer(1, 0), 9999);
    }

    @Says(at = "Terms 2", words = "Who has a COLD borrows nothing.")
    static void aColdBorrowsNothing() {
        FalseNotes x = Check.valley("singer a purse 9 cold;singer b purse 9;");
        Check.refused("borrows", x, x.lend(1, 0, 1), 7);
        Check.given("lends", x, x.lend(0, 1, 1), 1);
        x.well(0);
        Check.given("WELL again", x, x.lend(1, 0, 1), 1);
    }

    @Says(at = "Terms 2", words = "PAY n (1 to 999):")
    static void payOf1To999() {
        FalseNotes x = Check.valley("singer a purse 999;singer b purse 0;");
        lendMuch(x, 0, 1, 999);
        x.earn(1, 9);
        Check.refused("0", x, x.pay(1, 0, 0), 1);
        Check.refused("-1", x, x.pay(1, 0, -1), 1);
        Check.refused("1,000", x, x.pay(1, 0, 1000), 1);
        Check.given("1", x, x.pay(1, 0, 1), 998);
        x.lend(0, 1, 1);
        Check.given("999", x, x.pay(1, 0, 999), 0);
    }

    @Says(at = "Terms 2", words = "n coins go from the DEBTOR's PURSE to the other's; the DEBT is n less; what is 0 is gone: its NOTE is FREE.")
    static void whatIs0IsGone() {
        FalseNotes x = Check.valley(THREE + "owes b a 6;");
        Check.given("1 is left", x, x.pay(1, 0, 5), 1);
        Check.given("held still", x, x.held(0, 0, 1), 1);
        Check.due("coins of b", x.singer(1, 0), 15);
        Check.due("coins of a", x.singer(0, 0), 55);
        Check.given("0 is left", x, x.pay(1, 0, 1), 0);
        Check.refused("FREE", x, x.held(0, 0, 0), 6);
        Check.due("no DEBT", x.told(3), 0);
    }

    @Says(at = "Terms 2", words = "What WAITS can't be PAID.")
    static void whatWaitsCantBePaid() {
        FalseNotes x = eightWait();
        Check.refused("PAID", x, x.pay(2, 0, 1), 7);
        Check.due("coins stay", x.singer(2, 0), 100);
        Check.given("by a COLD not either", x, x.cold(7), 0);
        Check.given("WAITS still", x, x.waiting(5, 2), 7);
    }

    @Says(at = "Terms 2", words = "It can't be with fewer coins, a DEBT below n, a PURSE above 9,999.")
    static void payCantBe() {
        FalseNotes x = Check.valley("singer a purse 5;singer b purse 9;singer c purse 50;owes a b 9;owes c b 9;");
        Check.refused("6 of 5 coins", x, x.pay(0, 1, 6), 7);
        Check.given("5 of 5 coins", x, x.pay(0, 1, 5), 4);
        Check.refused("10 of a DEBT of 9", x, x.pay(2, 1, 10), 7);
        Check.refused("no DEBT", x, x.pay(2, 0, 1), 7);
        enrich(x, 1, 9993);
        Check.refused("to 10,000", x, x.pay(2, 1, 7), 7);
        Check.given("to 9,999", x, x.pay(2, 1, 6), 3);
        Check.due("PAID", x.told(7), 11);
    }

    @Says(at = "Terms 2", words = "CHORD of two: the lesser of both DEBTS that they hold in each other's LINE goes off both.")
    static void chordOfTheLesser() {
        FalseNotes x = Check.valley(THREE + "owes a b 9;owes b a 4;owes b c 7;owes c b 7;");
        Check.given("4 of 9 and 4", x, x.chord(0, 1), 4);
        Check.due("5 is left", x.owed(0, 1), 5);
        Check.refused("the NOTE of a is FREE", x, x.held(0, 0, 0), 6);
        Check.given("7 of 7 and 7", x, x.chord(2, 1), 7);
        Check.due("both are gone", x.owed(1, 2) + x.owed(2, 1), 0);
        Check.due("no coin went over", x.singer(0, 0) * 1000 + x.singer(1, 0) * 10 + x.singer(2, 0), 50205);
        FalseNotes y = eightWait();
        Check.refused("what WAITS is not held", y, y.chord(2, 0), 7);
    }

    @Says(at = "Terms 2", words = "Whenever NOTES are FREE behind any of this: the first that WAITS for such a LINE gets the first FREE one, and so on.")
    static void whoWaitsGetsFreeNotes() {
        FalseNotes x = eightWait();
        x.pay(1, 0, 1);
        Check.given("behind PAY: the first of a's", x, x.held(0, 0, 0), 2);
        Check.given("as much", x, x.held(0, 0, 1), 2);
        Check.given("the next is first", x, x.waiting(0, 0), 3);
        x.pay(0, 1, 8);
        Check.given("not the first of all, but the first of b's", x, x.held(1, 0, 0), 2);
        Check.due("6 WAIT", x.told(4), 6);
        FalseNotes y = eightWait();
        y.chord(0, 1);
        Check.given("behind a CHORD, where all went off", y, y.held(0, 0, 0), 2);
        Check.given("where it did not all go off", y, y.held(1, 0, 0), 0);
        FalseNotes z = eightWait();
        z.cold(2);
        z.cold(0);
        Check.given("behind a COLD", z, z.held(1, 0, 0), 2);
        FalseNotes w = eightWait();
        Check.years(w, "pay b to a 1;pay c to a 2;");
        w.live(0);
        Check.given("and so on", w, w.held(0, 0, 0), 3);
        Check.due("none was MISSED", w.lived(0), 0);
    }

    /** 8 WAIT, six for the NOTE of a, one for that of b, the last for that of c; all have 100 coins. */
    private static FalseNotes theLastWaitsForC() {
        FalseNotes x = Check.valley(TextSentences.singers(8).replace("purse 0", "purse 100")
                + "owes b a 1;owes c a 2;owes d a 3;owes e a 4;owes f a 5;owes g a 6;owes h a 7;owes a b 8;owes d b 9;owes a c 10;owes e c 11;");
        Check.due("8 WAIT", x.told(4), 8);
        return x;
    }

    @Says(at = "Terms 2", words = "the first that WAITS for such a LINE gets the first FREE one,")
    static void theLastOf8GetsANoteToo() {
        FalseNotes x = theLastWaitsForC();
        x.pay(0, 2, 10);
        Check.given("the eighth", x, x.held(2, 0, 0), 4);
        Check.given("as much", x, x.held(2, 0, 1), 11);
        Check.due("7 WAIT", x.told(4), 7);
        Check.given("the seventh as it was", x, x.waiting(6, 1), 1);
    }

    @Says(at = "Terms 2", words = "SUNG: a NOTE and the DEBT that stands there;")
    static void sungWithItsDebt() {
        FalseNotes x = Check.valley("singer a purse 0 line 24 0;singer b purse 999;owes b a 99;");
        Check.given("24 and 99", x, x.sung(0, 0), 123);
        Check.given("a FREE one", x, x.sung(0, 1), 0);
        x.earn(0, 900);
        for (int i = 0; i < 9; i++) {
            x.lend(0, 1, 99);
        }
        x.lend(0, 1, 9);
        Check.given("24 and 999", x, x.sung(0, 0), 1023);
    }

    @Says(at = "Terms 2", words = "a BASS sings all 12 lower (below 0, too).")
    static void aBassSings12Lower() {
        FalseNotes x = Check.valley("singer a purse 0 bass line 0 24 12 0;singer b purse 0;owes b a 12;");
        int[] want = {0, 12, 0, -12};
        for (int note = 0; note < 4; note++) {
            Check.given("NOTE " + note, x, x.sung(0, note), want[note]);
        }
        Check.given("not another", x, x.sung(1, 0), 12);
    }

    @Says(at = "Terms 2", words = "SUNDAY (to 9,999):")
    static void sundaysTo9999() {
        FalseNotes x = Check.valley("singer a purse 0;singer b purse 0;owes b a 5;");
        Check.years(x, "loop 99;sunday;sunday;sunday;end;");
        for (int i = 0; i < 33; i++) {
            x.live(i);
        }
        Check.due("33 times 297", x.told(2), 9801);
        for (int i = 0; i < 197; i++) {
            x.sunday();
        }
        Check.given("9,998", x, x.told(2), 9998);
        Check.given("to 9,999", x, x.sunday(), 5);
        Check.given("9,999", x, x.told(2), 9999);
        x.hum(10);
        Check.refused("behind it", x, x.sunday(), 4);
        Check.due("nothing grows then", x.owed(1, 0), 5);
        Check.due("9,999 still", x.told(2), 9999);
    }

    private static int afterASunday(int hums, int debt) {
        FalseNotes x = Check.valley("singer a purse 0;singer b purse 0;owes b a " + debt + ";hums " + hums + ";");
        x.sunday();
        return x.owed(1, 0);
    }

    @Says(at = "Terms 2", words = "each DEBT at a NOTE grows by HUMS hundredths of it, rounded down,")
    static void sundayRoundsDown() {
        Check.due("10 of 29", afterASunday(10, 29), 31);
        Check.due("10 of 30", afterASunday(10, 30), 33);
        Check.due("50 of 99", afterASunday(50, 99), 148);
        Check.due("3 of 99", afterASunday(3, 99), 101);
        FalseNotes x = eightWait();
        x.hum(50);
        x.sunday();
        Check.due("at a NOTE", x.owed(0, 1), 12);
        Check.due("not what WAITS", x.owed(3, 1), 10);
    }

    @Says(at = "Terms 2", words = "at least 1 if HUMS are above 0")
    static void sundayGrowsAtLeast1() {
        Check.due("1 of 1", afterASunday(1, 1), 2);
        Check.due("1 of 99", afterASunday(1, 99), 100);
        Check.due("50 of 1", afterASunday(50, 1), 2);
        Check.due("0 of 99", afterASunday(0, 99), 99);
        Check.due("0 of 1", afterASunday(0, 1), 1);
    }

    @Says(at = "Terms 2", words = "(999 at most);")
    static void sundayTo999() {
        FalseNotes x = Check.valley("singer a purse 999;singer b purse 0;");
        lendMuch(x, 0, 1, 666);
        x.hum(50);
        Check.given("to just 999", x, x.sunday(), 999);
        Check.given("stays", x, x.sunday(), 999);
        FalseNotes y = Check.valley("singer a purse 999;singer b purse 0;");
        lendMuch(y, 0, 1, 998);
        y.hum(50);
        Check.given("not above", y, y.sunday(), 999);
        y.hum(1);
        Check.given("by the least HUMS not either", y, y.sunday(), 999);
    }

    @Says(at = "Terms 2", words = "not of a DEAF one's LINE.")
    static void sundayNotOfADeafOne() {
        FalseNotes x = Check.valley("singer a purse 0 deaf;singer b purse 0;owes b a 50;owes a b 50;hums 10;");
        Check.given("all", x, x.sunday(), 105);
        Check.due("to a DEAF one", x.owed(1, 0), 50);
        Check.due("by a DEAF one", x.owed(0, 1), 55);
    }

    @Says(at = "Terms 2", words = "COLD (of who has none):")
    static void coldOfWhoHasNone() {
        FalseNotes x = Check.valley("singer a purse 9 cold;singer b purse 9;owes a b 5;");
        Check.refused("who has one", x, x.cold(0), 7);
        Check.due("nothing was PAID", x.told(7), 0);
        x.well(0);
        Check.given("who has none", x, x.cold(0), 5);
    }

    @Says(at = "Terms 2", words = "LINE by LINE, by numbers, NOTE by NOTE, what it owes is PAID as far as its PURSE goes")
    static void coldPaysAsFarAsItGoes() {
        String four = "singer a purse 0;singer b purse 0;singer c purse ";
        String owes = ";singer d purse 0;owes c d 4;owes c b 3;owes c a 2;";
        int[][] left = {{2, 3, 4}, {1, 3, 4}, {0, 3, 4}, {0, 2, 4}, {0, 1, 4}, {0, 0, 4}, {0, 0, 3}, {0, 0, 2}, {0, 0, 1}, {0, 0, 0}};
        for (int coins = 0; coins <= 10; coins++) {
            FalseNotes x = Check.valley(four + coins + owes);
            Check.given("PAID of " + coins, x, x.cold(2), Math.min(coins, 9));
            int[] want = left[Math.min(coins, 9)];
            Check.due("to a", x.owed(2, 0), want[0]);
            Check.due("to b", x.owed(2, 1), want[1]);
            Check.due("to d", x.owed(2, 3), want[2]);
            Check.due("left", x.singer(2, 0), Math.max(0, coins - 9));
        }
    }

    @Says(at = "Terms 2", words = "(and the other's to 9,999);")
    static void coldPaysToAFullPurse() {
        FalseNotes x = Check.valley("singer a purse 90;singer b purse 0;singer c purse 0;singer d purse 0;owes a b 20;owes a c 30;owes a d 5;");
        enrich(x, 1, 9992);
        enrich(x, 2, 9999);
        Check.given("7, 0 and 5", x, x.cold(0), 12);
        Check.due("full", x.singer(1, 0), 9999);
        Check.due("full already", x.singer(2, 0), 9999);
        Check.due("13 is left", x.owed(0, 1), 13);
        Check.due("30 is left", x.owed(0, 2), 30);
        Check.due("0 is left", x.owed(0, 3), 0);
    }

    @Says(at = "Terms 2", words = "from then on it has a COLD.")
    static void fromThenOnItHasACold() {
        FalseNotes x = Check.valley(THREE);
        Check.given("without DEBTS, too", x, x.cold(1), 0);
        Check.due("set", x.told(8), 2);
        Check.refused("borrows", x, x.lend(0, 1, 1), 7);
    }

    @Says(at = "Terms 2", words = "It is WELL again: it has none.")
    static void wellAgain() {
        FalseNotes x = Check.valley(THREE);
        x.cold(1);
        x.cold(2);
        Check.given("one still", x, x.well(1), 1);
        Check.due("set", x.told(8), 4);
        Check.given("borrows", x, x.lend(0, 1, 1), 1);
    }

    @Says(at = "Terms 2", words = "DIE: its HEIR (if it has one that is not DEAD; else all of this is gone)")
    static void dieWithoutHeir() {
        String text = "singer a purse 7;singer b purse 3;singer c purse 4;owes a c 5;";
        FalseNotes x = Check.valley(text);
        x.die(0);
        Check.due("without one: coins", x.told(6), 7);
        Check.due("DEBTS", x.told(5), 0);
        FalseNotes y = Check.valley(text + "heir a b;");
        y.die(1);
        y.die(0);
        Check.due("of a DEAD one: coins", y.told(6), 4);
        Check.due("DEBTS of a DEAD one", y.told(5), 0);
        FalseNotes z = Check.valley(text + "heir a b;");
        z.die(0);
        Check.due("of another: coins", z.singer(1, 0), 10);
        Check.due("DEBTS of another", z.owed(1, 2), 5);
    }

    @Says(at = "Terms 2", words = "gets its PURSE (9,999 at most, what is more is lost) and its DEBTS:")
    static void heirWithAFullPurse() {
        for (int coins = 9992; coins <= 9999; coins++) {
            FalseNotes x = Check.valley("singer a purse 5;singer b purse 0;singer c purse 0;owes a c 5;heir a b;");
            enrich(x, 1, coins);
            x.die(0);
            Check.due("from " + coins, x.singer(1, 0), Math.min(9999, coins + 5));
            Check.due("the DEBT", x.owed(1, 2), 5);
        }
    }

    @Says(at = "Terms 2", words = "LINE by LINE, NOTE by NOTE, the NOTE it held is FREE, then the HEIR owes as much by words of LEND")
    static void heirOwesByWordsOfLend() {
        FalseNotes x = Check.valley("singer a purse 0 line 1 2;singer b purse 0;singer c purse 0;singer d purse 0;singer e purse 0 line 1;"
                + "owes b a 3;owes c a 4;owes d a 5;owes b e 6;owes d e 7;heir b d;");
        x.die(1);
        Check.given("who WAITS already has more, and gets the NOTE behind all", x, x.held(0, 0, 0), 3);
        Check.given("5 and 3", x, x.held(0, 0, 1), 8);
        Check.given("of e likewise", x, x.held(4, 0, 1), 13);
        FalseNotes y = Check.valley("singer a purse 0 line 1 2;singer b purse 0;singer c purse 0;singer d purse 0;"
                + "owes b a 3;owes d a 4;owes c a 5;heir b c;");
        Check.given("c WAITS", y, y.waiting(0, 0), 2);
        y.name(1, 3);
        y.die(1);
        Check.given("more at the NOTE it holds", y, y.held(0, 1, 1), 7);
        Check.given("c gets the other", y, y.held(0, 0, 0), 2);
    }

    @Says(at = "Terms 2", words = "(no coin goes over, a COLD does not matter;")
    static void heirWithACold() {
        FalseNotes x = Check.valley("singer a purse 0;singer b purse 0 cold;singer c purse 0;owes a c 5;heir a b;");
        x.die(0);
        Check.due("owes", x.owed(1, 2), 5);
        Check.due("no coins", x.told(6), 0);
        Check.due("a COLD still", x.told(8), 2);
    }

    @Says(at = "Terms 2", words = "what can't be, and what is owed to the HEIR itself, is gone);")
    static void whatTheHeirCantOweIsGone() {
        String heirOwes990 = "singer a purse 0;singer b purse 0;singer c purse 0;heir a b;" + "owes b c 99;".repeat(10);
        FalseNotes x = Check.valley(heirOwes990 + "owes a c 10;");
        x.die(0);
        Check.due("1,000 can't be", x.owed(1, 2), 990);
        FalseNotes y = Check.valley(heirOwes990 + "owes a c 9;");
        y.die(0);
        Check.due("999 can", y.owed(1, 2), 999);
        FalseNotes z = Check.valley("singer a purse 0;singer b purse 0;singer c purse 0;heir a b;owes a b 5;owes a c 6;");
        z.die(0);
        Check.due("to the HEIR itself", z.told(5), 6);
    }

    @Says(at = "Terms 2", words = "then likewise what WAITS of it, in order.")
    static void heirOfWhatWaits() {
        FalseNotes x = eightWait();
        x.name(2, 7);
        x.die(2);
        int[][] want = {{3, 0, 3}, {4, 0, 4}, {5, 0, 5}, {6, 0, 6}, {7, 0, 9}, {3, 1, 10}, {7, 1, 9}};
        Check.due("7 WAIT", x.told(4), 7);
        for (int k = 0; k < 7; k++) {
            for (int what = 0; what < 3; what++) {
                Check.given("waiting " + k, x, x.waiting(k, what), want[k][what]);
            }
        }
        FalseNotes y = eightWait();
        y.name(2, 1);
        y.die(2);
        Check.given("the HEIR holds a NOTE of a", y, y.held(0, 0, 1), 3);
        Check.due("what WAITS for the HEIR is gone", y.told(4), 6);
        FalseNotes z = eightWait();
        z.name(3, 2);
        z.die(3);
        Check.due("of two that WAIT", z.told(4), 6);
        Check.given("2 and 3", z, z.waiting(0, 2), 5);
        Check.given("9 and 10", z, z.waiting(5, 2), 19);
    }

    @Says(at = "Terms 2", words = "Then all DEBTS at its own LINE, and what WAITS for that, are gone;")
    static void debtsToADeadOneAreGone() {
        FalseNotes x = eightWait();
        x.name(0, 4);
        x.die(0);
        Check.due("2 WAIT still, less the HEIR's NOTE", x.told(4), 2);
        Check.due("to a", x.singer(0, 6), 0);
        Check.due("NOTES are FREE", x.held(0, 0, 0), -1);
        Check.given("the HEIR has the NOTE of b", x, x.held(1, 0, 0), 4);
        Check.due("all that is owed", x.told(5), 8 + 9 + 10);
        FalseNotes y = theLastWaitsForC();
        y.die(2);
        Check.due("what WAITED first, of the DEAD one, and last, for it, is gone", y.told(4), 6);
        Check.given("d is first", y, y.waiting(0, 0), 3);
        Check.given("what WAITS for b is last", y, y.waiting(5, 1), 1);
        Check.due("c is OWED nothing", y.singer(2, 6), 0);
        Check.due("all but 2, 10 and 11", y.told(5), 1 + 3 + 4 + 5 + 6 + 7 + 8 + 9);
        FalseNotes z = Check.valley(TextSentences.singers(8) + "owes c a 1;owes b a 2;owes d a 3;owes e a 4;owes f a 5;owes g a 6;owes h a 7;"
                + "owes a b 8;owes d b 9;owes a c 10;owes e c 11;");
        Check.due("8 WAIT, none of them c", z.told(4), 8);
        z.die(2);
        Check.due("the last of 8 is gone, the first has the NOTE", z.told(4), 6);
        Check.given("b has it", z, z.held(0, 0, 0), 1);
        Check.refused("nobody has c's", z, z.held(2, 0, 0), 6);
    }

    @Says(at = "Terms 2", words = "it is DEAD, has no coins, no COLD.")
    static void aDeadOneHasNoCoinsNoCold() {
        FalseNotes x = Check.valley("singer a purse 7 cold;singer b purse 3 cold;");
        x.die(0);
        Check.due("DEAD", x.told(9), 1);
        Check.given("no coins", x, x.singer(0, 0), 0);
        Check.due("no COLD", x.told(8), 2);
        Check.due("3 coins", x.told(6), 3);
    }

    @Says(at = "Terms 2", words = "(Who WAITS gets FREE NOTES behind all this.)")
    static void whoWaitsGetsFreeNotesBehindADeath() {
        FalseNotes x = Check.valley("singer a purse 0 line 1;singer b purse 0;singer c purse 0;singer d purse 0;"
                + "owes b a 1;owes c a 2;heir b d;");
        x.die(1);
        Check.given("the HEIR is ahead of who WAITS", x, x.held(0, 0, 0), 3);
        Check.given("c WAITS still", x, x.waiting(0, 0), 2);
        FalseNotes y = Check.valley("singer a purse 0 line 1;singer b purse 0;singer c purse 0;owes b a 1;owes c a 2;");
        y.die(1);
        Check.given("without HEIR", y, y.held(0, 0, 0), 2);
        Check.due("none WAITS", y.told(4), 0);
    }

    @Says(at = "Terms 2", words = "A DEAD one is no SINGER where one is asked for,")
    static void aDeadOneIsNoSinger() {
        FalseNotes x = Check.valley("singer a purse 7;singer b purse 3;singer c purse 3;");
        x.tray(0, 2, 9);
        x.die(1);
        Check.refused("sung", x, x.sung(1, 0), 1);
        Check.refused("copySung", x, x.copySung(1, 0), 1);
        Check.refused("lend from", x, x.lend(1, 0, 1), 1);
        Check.refused("lend to", x, x.lend(0, 1, 1), 1);
        Check.refused("pay from", x, x.pay(1, 0, 1), 1);
        Check.refused("pay to", x, x.pay(0, 1, 1), 1);
        Check.refused("chord", x, x.chord(1, 0), 1);
        Check.refused("chord, the other", x, x.chord(0, 1), 1);
        Check.refused("cold", x, x.cold(1), 1);
        Check.refused("well", x, x.well(1), 1);
        Check.refused("die", x, x.die(1), 1);
        Check.refused("earn", x, x.earn(1, 1), 1);
        Check.refused("name", x, x.name(1, 0), 1);
        Check.refused("name none", x, x.name(1, -1), 1);
        Check.refused("name as HEIR", x, x.name(0, 1), 1);
        Check.refused("balance", x, x.balance(1), 1);
        Check.refused("behind", x, x.behind(1), 1);
        Check.refused("free", x, x.free(1), 1);
        Check.refused("queue", x, x.queue(1), 1);
        Check.refused("falsest", x, x.falsest(1), 1);
        Check.refused("heard", x, x.heard(1, 0), 1);
        Check.refused("transposed", x, x.transposed(1, 0), 1);
        Check.refused("forged", x, x.forged(1, 0), 1);
        Check.refused("whose", x, x.whose(1, 1), 1);
    }

    @Says(at = "Terms 2", words = "but in singer(), line(), held(), owed();")
    static void aDeadOneIsToldStill() {
        FalseNotes x = Check.valley("singer a purse 7 bass deaf line 3 4;singer b purse 3;owes a b 5;owes b a 6;heir a b;");
        x.die(0);
        int[] want = {0, 2, 1, 1, 1, 0, 0};
        for (int what = 0; what < 7; what++) {
            Check.given("singer " + what, x, x.singer(0, what), want[what]);
        }
        Check.given("line", x, x.line(0, 1), 4);
        Check.refused("held: FREE", x, x.held(0, 1, 0), 6);
        Check.refused("held: no NOTE", x, x.held(0, 2, 0), 1);
        Check.given("owed by it", x, x.owed(0, 1), 0);
        Check.given("owed to it", x, x.owed(1, 0), 0);
    }

    @Says(at = "Terms 2", words = "in YEARS all with one is MISSED (a test of one is by 0).")
    static void inYearsADeadOneIsMissed() {
        FalseNotes x = Check.valley("singer a purse 7;singer b purse 3;");
        x.die(0);
        Check.given("YEARS name it", x, Check.years(x, "lend a to b 1;lend b to a 1;pay a to b 1;pay b to a 1;cold a;die a;chord a b;"
                + "chord b a;"), 8);
        Check.given("all are done", x, x.live(0), 8);
        Check.due("all are MISSED", x.lived(0), 8);
        Check.years(x, "when purse a = 0; sunday; end; when debt a to b = 0; sunday; end; when debt b to a = 0; sunday; end;"
                + "when still a; sunday; end; when purse a > 0; sunday; end;");
        x.live(0);
        Check.due("four hold", x.lived(3), 4);
        Check.due("tests are not MISSED", x.lived(0), 0);
    }
}
