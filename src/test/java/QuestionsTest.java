/** What is asked of a CHOIR: balances, rounds, notes, hums (32 to 58). */
public final class QuestionsTest {
    public static void main(String[] args) {
        balances();
        payings();
        shortOnes();
        mostOwed();
        basses();
        rounds();
        clearing();
        asking();
        chains();
        notes();
        hearing();
        growing();
        Check.end();
    }

    /** SINGERS a, b .. with PURSE 1 each, and what follows. */
    private static FalseNotes plain(int many, String rest) {
        StringBuilder text = new StringBuilder();
        for (int s = 0; s < many; s++) {
            text.append("singer ").append((char) ('a' + s)).append(" purse 1 line 1 2 3 4 5 6;");
        }
        return Check.valley(text + rest);
    }

    private static void balances() {
        FalseNotes x = Check.valley("singer a purse 1 line 1;singer b purse 0;singer c purse 0;owes b a 4;owes c a 6;owes a b 11;");
        Check.given("with what WAITS", x, x.balance(0), -1);
        Check.given("of b", x, x.balance(1), 7);
        Check.given("what WAITS is owed", x, x.balance(2), -6);
        Check.refused("no SINGER", x, x.balance(3), 1);
        Check.refused("below", x, x.balance(-1), 1);
    }

    private static void payings() {
        FalseNotes x = plain(6, "owes a b 5;owes c d 7;owes e f 9;");
        Check.given("three couples", x, x.payings(), 3);
        Check.given("parts", x, x.parts(), 3);
        x = plain(6, "owes a b 5;owes b c 5;owes d e 1;owes e f 1;");
        Check.given("rows of three", x, x.payings(), 2);
        Check.given("parts of four with a BALANCE", x, x.parts(), 2);
        x = plain(4, "owes a b 3;owes b c 3;owes c a 3;");
        Check.given("nobody has a BALANCE", x, x.payings(), 0);
        Check.given("no parts", x, x.parts(), 0);
        x = plain(8, "owes a b 1;owes a c 2;owes a d 3;owes e f 4;owes e g 5;owes e h 6;");
        // -6 1 2 3, -15 4 5 6
        Check.given("two stars", x, x.payings(), 6);
        x = plain(5, "owes a c 3;owes a d 4;owes b d 1;owes b e 5;");
        // a -7, b -6, c 3, d 5, e 5: all together alone
        Check.given("one part", x, x.payings(), 4);
        x = plain(5, "owes a c 2;owes a d 5;owes b d 1;owes b e 5;");
        // a -7, b -6, c 2, d 6, e 5: b and d, a with c and e
        Check.given("two parts that no DEBT shows", x, x.parts(), 2);
        Check.given("three PAYINGS", x, x.payings(), 3);
    }

    private static void shortOnes() {
        FalseNotes x = Check.valley("singer a purse 5;singer b purse 4;singer c purse 0;owes a b 5;owes b c 10;owes c a 2;");
        // a 5-5+2, b 4+5-10, c 0+10-2
        Check.given("shorts", x, x.shorts(), 2);
        Check.given("lacking", x, x.lacking(), 1);
        x.pay(0, 1, 5);
        Check.given("still", x, x.lacking(), 1);
        x.earn(1, 1);
        Check.given("just enough", x, x.shorts(), 0);
        Check.given("nothing lacks", x, x.lacking(), 0);
    }

    private static void mostOwed() {
        FalseNotes x = Check.valley("singer a purse 5;singer b purse 4 line 1;singer c purse 0;singer d purse 0;"
                + "owes a b 5;owes c b 5;owes d c 10;");
        Check.given("richest, of several the first", x, x.richest(), 1);
        Check.given("deepest", x, x.deepest(), 3);
        x.die(1);
        Check.given("richest alive", x, x.richest(), 2);
        x.die(3);
        Check.refused("nothing is", x, x.richest(), 6);
        Check.refused("nobody does", x, x.deepest(), 6);
    }

    private static void basses() {
        FalseNotes x = Check.valley("singer a purse 5 bass;singer b purse 4 bass line 1;singer c purse 0;singer d purse 0;"
                + "owes c a 6;owes a b 5;owes c b 4;owes d c 9;");
        Check.given("bass", x, x.bass());
        Check.due("top", x.top(), 5);
        Check.due("bottom", x.bottom(), 8);
        x.die(0);
        x.die(1);
        Check.given("none to a BASS", x, x.bass());
        Check.due("0", x.top(), 0);
        Check.due("by 1", x.bottom(), 1);
        x.lend(3, 2, 1);
        x.die(3);
        Check.refused("nothing is owed", x, x.bass(), 6);
        Check.due("as told latest", x.bottom(), 1);
        FalseNotes y = Check.valley("singer a purse 5 bass;singer b purse 4;owes b a 3;");
        y.bass();
        Check.due("1", y.top(), 1);
        Check.due("by 1", y.bottom(), 1);
        y.pay(1, 0, 3);
        Check.refused("nothing", y, y.bass(), 6);
        Check.due("1 stays", y.top(), 1);
    }

    private static void round(FalseNotes x, int... want) {
        Check.given("round", x, x.round(), want.length);
        for (int k = 0; k < want.length; k++) {
            Check.given("roundAt " + k, x, x.roundAt(k), want[k]);
        }
        Check.refused("behind it", x, x.roundAt(want.length), 6);
        Check.refused("below 0", x, x.roundAt(-1), 1);
    }

    private static void rounds() {
        FalseNotes x = plain(5, "owes a b 1;owes b a 1;owes b c 1;owes c d 1;");
        Check.refused("two are none", x, x.round(), 6);
        Check.refused("no such", x, x.roundAt(0), 6);
        Check.refused("below 0 ahead of that", x, x.roundAt(-1), 1);
        Check.refused("clear", x, x.clear(), 7);
        round(plain(5, "owes a b 1;owes b c 1;owes c d 1;owes d a 1;owes c e 1;owes e d 1;"), 0, 1, 2, 3);
        round(plain(5, "owes c b 1;owes b e 1;owes e c 1;"), 1, 4, 2);
        round(plain(5, "owes a b 1;owes b c 1;owes c d 1;owes d a 1;owes e d 1;owes d c 1;owes c e 1;"), 2, 4, 3);
        round(plain(4, "owes a c 1;owes c b 1;owes b a 1;owes a b 1;owes b c 1;owes c a 1;"), 0, 1, 2);
        round(plain(4, "owes b d 1;owes d c 1;owes c b 1;owes d a 1;owes a b 1;"), 0, 1, 3);
        round(plain(8, "owes a h 1;owes h b 1;owes b g 1;owes g c 1;owes c f 1;owes f d 1;owes d e 1;owes e a 1;"),
                0, 7, 1, 6, 2, 5, 3, 4);
        FalseNotes y = Check.valley("singer a purse 1 line 1;singer b purse 1;singer c purse 1;owes b a 1;owes a b 1;"
                + "owes b c 1;owes c a 1;");
        Check.refused("what WAITS makes none", y, y.round(), 6);
        y.pay(1, 0, 1);
        round(y, 0, 1, 2);
    }

    private static void clearing() {
        FalseNotes x = Check.valley("singer a purse 1 line 1;singer b purse 1;singer c purse 1;singer d purse 1;"
                + "owes c a 4;owes d a 2;owes a b 9;owes b c 4;");
        Check.given("clear", x, x.clear(), 4);
        Check.due("left", x.told(5), 5 + 2);
        Check.due("of the first", x.owed(0, 1), 5);
        Check.due("who WAITED gets the NOTE", x.held(0, 0, 0), 3);
        Check.due("no coins", x.told(6), 4);
        Check.due("nothing PAID", x.told(7), 0);
        Check.refused("none more", x, x.clear(), 7);
    }

    private static void asking() {
        FalseNotes x = plain(6, "owes a b 1;owes c d 1;owes e f 1;");
        Check.given("one of each", x, x.ask(), 3);
        Check.given("the least", x, x.askSet(), 1 + 4 + 16);
        x = plain(6, "owes a b 1;owes c b 1;owes b d 1;owes f b 1;");
        Check.given("one for all", x, x.ask(), 1);
        Check.given("b", x, x.askSet(), 2);
        x = plain(3, "owes a b 1;owes b c 1;owes c a 1;");
        Check.given("two of three", x, x.ask(), 2);
        Check.given("a and b", x, x.askSet(), 3);
        x = plain(5, "owes a e 1;owes b e 1;owes a d 1;owes b d 1;");
        Check.given("a and b again", x, x.askSet(), 3);
        x = Check.valley("singer a purse 1 line 1;singer b purse 1;singer c purse 1;owes b a 1;owes c a 1;owes a b 1;");
        Check.given("what WAITS counts", x, x.askSet(), 1);
        x = Check.valley("singer b purse 1;singer c purse 1;singer d purse 1;singer a purse 1 line 1;owes b a 1;owes c a 1;owes b d 1;");
        Check.given("what WAITS must be asked, too", x, x.askSet(), 3);
        x.die(0);
        x.die(1);
        Check.given("none", x, x.ask(), 0);
        Check.given("no set", x, x.askSet(), 0);
    }

    private static void chains() {
        FalseNotes x = plain(5, "");
        Check.given("one alone", x, x.chain(), 1);
        Check.given("behind none", x, x.behind(2), 0);
        x = plain(5, "owes e d 1;owes d c 1;owes c b 1;owes b a 1;");
        Check.given("all", x, x.chain(), 5);
        Check.given("behind", x, x.behind(3), 7);
        Check.given("behind the last", x, x.behind(0), 0);
        x = plain(5, "owes a b 1;owes b c 1;owes c a 1;owes a d 1;");
        Check.given("none twice", x, x.chain(), 4);
        Check.given("not itself", x, x.behind(0), 2 + 4 + 8);
        Check.given("of d", x, x.behind(3), 0);
        Check.refused("no SINGER", x, x.behind(5), 1);
        x = Check.valley("singer a purse 1 line 1;singer b purse 1;singer c purse 1;owes b a 1;owes c a 1;");
        Check.given("what WAITS makes no row", x, x.behind(2), 0);
        Check.given("a row of two", x, x.chain(), 2);
        x.die(0);
        x.die(1);
        Check.given("one is left", x, x.chain(), 1);
        x.die(2);
        Check.given("none is left", x, x.chain(), 0);
    }

    private static void notes() {
        FalseNotes x = Check.valley("singer a purse 1 line 1 2;singer b purse 1;singer c purse 1;singer d purse 9;"
                + "owes b a 5;owes c a 5;owes d a 7;owes a d 3;");
        Check.given("free", x, x.free(0), 0);
        Check.given("free", x, x.free(3), 2);
        Check.refused("free, no SINGER", x, x.free(4), 1);
        Check.given("queue", x, x.queue(0), 1);
        Check.given("queue", x, x.queue(1), 0);
        Check.refused("queue, no SINGER", x, x.queue(-1), 1);
        Check.given("roomiest, of several the first", x, x.roomiest(), 1);
        x.die(1);
        Check.due("the DEAD one's NOTE", x.held(0, 0, 0), 3);
        Check.given("roomiest alive", x, x.roomiest(), 2);
        Check.given("falsest", x, x.falsest(0), 0);
        Check.given("whose", x, x.whose(0, 5), 2);
        Check.given("whose", x, x.whose(0, 7), 3);
        Check.refused("nobody's", x, x.whose(0, 6), 6);
        Check.refused("0", x, x.whose(0, 0), 1);
        Check.refused("1000", x, x.whose(0, 1000), 1);
        Check.refused("whose, no SINGER", x, x.whose(9, 1), 1);
        Check.refused("all are FREE", x, x.falsest(2), 6);
        Check.refused("falsest, no SINGER", x, x.falsest(4), 1);
        FalseNotes y = Check.valley("singer a purse 1 line 9 1;singer b purse 1;singer c purse 1 line 1;owes b a 5;owes c a 5;owes b c 1;");
        Check.given("of several the first", y, y.falsest(0), 0);
        Check.given("by NOTES the first", y, y.whose(0, 5), 1);
        FalseNotes z = Check.valley("singer a purse 1 line 1;singer b purse 1 line 1;owes a b 1;owes b a 1;");
        Check.refused("none is FREE", z, z.roomiest(), 6);
    }

    private static void fill(FalseNotes x, int tray, long... cells) {
        for (int i = 0; i < cells.length; i++) {
            x.write(tray, i, cells[i]);
        }
    }

    private static void hearing() {
        FalseNotes x = Check.valley("singer a purse 1 bass line 11 3 24;singer b purse 1;owes b a 5;");
        Check.refused("no SINGER", x, x.heard(2, 0), 1);
        Check.refused("no TRAY", x, x.heard(0, 4), 1);
        Check.refused("MISSING", x, x.heard(0, 0), 2);
        x.tray(0, 2, 2);
        fill(x, 0, 9999, 9999);
        Check.refused("too few ahead of numbers", x, x.heard(0, 0), 3);
        Check.refused("transposed, too few", x, x.transposed(0, 0), 3);
        Check.refused("forged, too few", x, x.forged(0, 0), 3);
        x.tray(0, 3, 4);
        fill(x, 0, 4, -9, 12, 99999);
        Check.given("as SUNG", x, x.heard(0, 0), 5);
        Check.given("not transposed", x, x.transposed(0, 0), 0);
        Check.refused("none is forged", x, x.forged(0, 0), 6);
        fill(x, 0, 3, -10, 11);
        Check.given("less", x, x.heard(0, 0), 2);
        Check.given("down by one", x, x.transposed(0, 0), -1);
        Check.refused("more than one", x, x.forged(0, 0), 6);
        fill(x, 0, 4, -9, 2000);
        Check.given("forged", x, x.forged(0, 0), 2);
        Check.refused("not alike", x, x.transposed(0, 0), 6);
        Check.given("much more", x, x.heard(0, 0), 5 + 1988);
        fill(x, 0, -3, -9, 12 + 1);
        Check.given("-1", x, x.heard(0, 0), -1);
        fill(x, 0, -12, -12, 2001);
        Check.refused("above 2,000", x, x.heard(0, 0), 5);
        Check.refused("transposed", x, x.transposed(0, 0), 5);
        Check.refused("forged", x, x.forged(0, 0), 5);
        fill(x, 0, -13, 0, 0);
        Check.refused("below -12", x, x.heard(0, 0), 5);
        fill(x, 0, 0, Long.MIN_VALUE, 0);
        Check.refused("far below", x, x.forged(0, 0), 5);
        fill(x, 0, 0, 0, 1L << 32);
        Check.refused("far above", x, x.transposed(0, 0), 5);
        fill(x, 0, -12, 2000, 2000);
        Check.given("the edges", x, x.heard(0, 0), -11 + 2009 + 1988);
        Check.refused("transposed, no SINGER", x, x.transposed(-1, 0), 1);
        Check.refused("transposed, MISSING", x, x.transposed(0, 1), 2);
        Check.refused("forged, no TRAY", x, x.forged(0, -1), 1);
        Check.refused("forged, MISSING", x, x.forged(0, 3), 2);
    }

    private static void growing() {
        FalseNotes x = Check.valley("singer a purse 1 line 1;singer b purse 1;singer c purse 0 deaf;"
                + "owes b a 10;owes c a 7;owes a c 20;hums 25;");
        Check.given("grows", x, x.grows(10, 1), 12);
        Check.given("grows", x, x.grows(10, 3), 18);
        Check.given("at least 1", x, x.grows(1, 2), 3);
        Check.given("of 0", x, x.grows(0, 999), 0);
        Check.given("0 SUNDAYS", x, x.grows(999, 0), 999);
        Check.given("999 at most", x, x.grows(900, 1), 999);
        Check.refused("grows -1", x, x.grows(-1, 0), 1);
        Check.refused("grows 1000", x, x.grows(1000, 0), 1);
        Check.refused("in -1", x, x.grows(1, -1), 1);
        Check.refused("in 1000", x, x.grows(1, 1000), 1);
        Check.given("before", x, x.before(12, 1), 10);
        Check.given("before", x, x.before(13, 1), 11);
        Check.given("before 0", x, x.before(0, 999), 0);
        Check.given("before 999", x, x.before(999, 999), 1);
        Check.given("before, 0 SUNDAYS", x, x.before(77, 0), 77);
        Check.refused("before 1000", x, x.before(1000, 0), 1);
        Check.refused("before -1", x, x.before(-1, 0), 1);
        Check.refused("before in 1000", x, x.before(1, 1000), 1);
        Check.refused("before in -1", x, x.before(1, -1), 1);
        Check.given("when", x, x.when(10, 18), 3);
        Check.given("when", x, x.when(10, 19), 4);
        Check.given("when now", x, x.when(10, 10), 0);
        Check.given("when 0 of 0", x, x.when(0, 0), 0);
        Check.refused("never", x, x.when(0, 1), 6);
        Check.refused("when 1000", x, x.when(1000, 1), 1);
        Check.refused("when k 1000", x, x.when(1, 1000), 1);
        Check.refused("when -1", x, x.when(-1, 1), 1);
        Check.refused("when k -1", x, x.when(1, -1), 1);
        Check.given("owedIn", x, x.owedIn(3), 18 + 7 + 20);
        Check.given("owedIn 0", x, x.owedIn(0), 37);
        Check.given("owedIn 999", x, x.owedIn(999), 999 + 27);
        Check.refused("owedIn -1", x, x.owedIn(-1), 1);
        Check.refused("owedIn 1000", x, x.owedIn(1000), 1);
        for (int i = 0; i < 3; i++) {
            x.sunday();
        }
        Check.due("as it was told", x.told(5), 45);
        x.hum(1);
        Check.given("one more each", x, x.when(1, 100), 99);
        Check.given("from 1 to 999", x, x.when(1, 999), slowly(1, 999));
        x.hum(0);
        Check.refused("HUMS 0", x, x.when(5, 6), 6);
        Check.given("before, HUMS 0", x, x.before(5, 999), 5);
        for (int hums = 1; hums <= 50; hums += 7) {
            x.hum(hums);
            for (int n = 0; n <= 999; n += 111) {
                int d = 0;
                while (d < 999 && x.grows(d, 4) < n) {
                    d++;
                }
                Check.given("the least", x, x.before(n, 4), d);
            }
        }
    }

    private static int slowly(int n, int k) {
        int sundays = 0;
        for (int debt = n; debt < k; debt += Math.max(1, debt / 100)) {
            sundays++;
        }
        return sundays;
    }
}
