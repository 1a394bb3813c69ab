/** What is done to a CHOIR (21 to 31), YEARS (59 to 61) and MARKS (62, 63). */
public final class DeedsTest {
    private static final String THREE = "singer a purse 50 line 1 2;singer b purse 20;singer c purse 5;";

    public static void main(String[] args) {
        lending();
        lendingThatWaits();
        fullPurses();
        paying();
        chording();
        sundays();
        lastSunday();
        coldAndWell();
        coldBeforeAFullPurse();
        dying();
        dyingWithoutHeir();
        dyingWhatWaits();
        dyingWhatCantBe();
        earningNamingHumming();
        allChords();
        living();
        livingMissed();
        livingTests();
        livingLoops();
        livingByDraws();
        means();
        marks();
        Check.end();
    }

    private static void lending() {
        FalseNotes x = Check.valley(THREE + "heir a b;");
        Check.given("lend", x, x.lend(0, 1, 30), 30);
        Check.due("from", x.singer(0, 0), 20);
        Check.due("to", x.singer(1, 0), 50);
        Check.due("first FREE NOTE", x.held(0, 0, 0), 1);
        Check.given("more", x, x.lend(0, 1, 10), 40);
        Check.given("all that is there", x, x.lend(0, 2, 10), 10);
        Check.due("second NOTE", x.held(0, 1, 0), 2);
        Check.refused("fewer coins", x, x.lend(0, 2, 1), 7);
        Check.due("nothing changed", x.owed(2, 0), 10);
        Check.refused("n 0", x, x.lend(0, 1, 0), 1);
        Check.refused("n 100", x, x.lend(0, 1, 100), 1);
        Check.refused("itself", x, x.lend(1, 1, 1), 1);
        Check.refused("no SINGER", x, x.lend(3, 1, 1), 1);
        Check.refused("to none", x, x.lend(1, -1, 1), 1);
        x.cold(2);
        Check.refused("a COLD borrows nothing", x, x.lend(1, 2, 1), 7);
        Check.given("a COLD lends", x, x.earn(2, 9), 9 + x.singer(2, 0) - 9);
        Check.given("indeed", x, x.lend(2, 1, 3), 3);
        x.die(1);
        Check.refused("to a DEAD one", x, x.lend(2, 1, 1), 1);
        Check.refused("from a DEAD one", x, x.lend(1, 2, 1), 1);
        FalseNotes y = Check.valley("singer a purse 999;singer b purse 0;");
        for (int i = 0; i < 10; i++) {
            y.lend(0, 1, 99);
        }
        Check.given("999 can be", y, y.lend(0, 1, 9), 999);
        y.earn(0, 99);
        Check.refused("1000 can't", y, y.lend(0, 1, 1), 7);
        Check.due("coins stay", y.singer(0, 0), 99);
    }

    private static void lendingThatWaits() {
        FalseNotes x = Check.valley("singer a purse 999 line 1;singer b purse 99 line 1;singer c purse 0;singer d purse 0;"
                + "singer e purse 0;singer f purse 0;singer g purse 0;singer h purse 0;");
        x.lend(0, 1, 1);
        for (int s = 2; s < 8; s++) {
            Check.given("WAITS", x, x.lend(0, s, s), s);
        }
        x.lend(1, 0, 1);
        x.lend(1, 2, 1);
        x.lend(1, 3, 1);
        Check.due("8 WAIT", x.told(4), 8);
        Check.refused("a ninth", x, x.lend(1, 4, 1), 7);
        Check.due("its coins stay", x.singer(4, 0), 4);
        Check.given("more of what WAITS", x, x.lend(1, 3, 5), 6);
        Check.due("in its place", x.waiting(7, 2), 6);
        Check.given("a FREE one elsewhere", x, x.lend(2, 4, 1), 1);
        Check.refused("what WAITS can't be PAID", x, x.pay(3, 1, 1), 7);
        Check.given("PAID", x, x.pay(1, 0, 1), 0);
        Check.due("the first that WAITS has it", x.held(0, 0, 0), 2);
        Check.due("as much", x.held(0, 0, 1), 2);
        Check.due("7 WAIT", x.told(4), 7);
        Check.due("the next", x.waiting(0, 0), 3);
        x.earn(0, 99);
        for (int i = 0; i < 10; i++) {
            x.lend(0, 7, 99 - 9 * (i / 9));
        }
        Check.due("waits for 988", x.owed(7, 0), 988);
        x.earn(0, 99);
        Check.refused("1000 can't WAIT", x, x.lend(0, 7, 12), 7);
        Check.given("999 can", x, x.lend(0, 7, 11), 999);
    }

    private static void fullPurses() {
        FalseNotes x = Check.valley("singer a purse 99;singer b purse 0;owes b a 9;");
        for (int i = 0; i < 10; i++) {
            x.earn(1, 999);
        }
        Check.due("9990", x.singer(1, 0), 9990);
        Check.refused("above 9,999", x, x.lend(0, 1, 10), 7);
        Check.given("9,999", x, x.lend(0, 1, 9), 18);
        Check.refused("earn above 9,999", x, x.earn(1, 1), 7);
        x.lend(1, 0, 5);
        Check.refused("earn above 9,999 by one", x, x.earn(1, 6), 7);
        Check.given("earn to 9,999", x, x.earn(1, 5), 9999);
        FalseNotes y = Check.valley("singer a purse 99;singer b purse 20;owes b a 9;");
        for (int i = 0; i < 9; i++) {
            y.earn(0, 999);
        }
        y.earn(0, 904);
        Check.due("9994", y.singer(0, 0), 9994);
        Check.refused("pay above 9,999", y, y.pay(1, 0, 6), 7);
        Check.given("pay to 9,999", y, y.pay(1, 0, 5), 4);
    }

    private static void paying() {
        FalseNotes x = Check.valley(THREE + "owes a b 9;owes c a 9;");
        Check.given("pay", x, x.pay(0, 1, 4), 5);
        Check.due("coins from", x.singer(0, 0), 46);
        Check.due("coins to", x.singer(1, 0), 24);
        Check.refused("DEBT below n", x, x.pay(0, 1, 6), 7);
        Check.refused("fewer coins", x, x.pay(2, 0, 6), 7);
        Check.refused("no DEBT", x, x.pay(1, 0, 1), 7);
        Check.refused("n 0", x, x.pay(0, 1, 0), 1);
        Check.refused("n 1000", x, x.pay(0, 1, 1000), 1);
        Check.refused("n 999", x, x.pay(0, 1, 999), 7);
        Check.refused("itself", x, x.pay(0, 0, 1), 1);
        Check.refused("no SINGER", x, x.pay(0, 3, 1), 1);
        Check.given("all", x, x.pay(0, 1, 5), 0);
        Check.refused("the NOTE is FREE", x, x.held(1, 0, 0), 6);
        Check.due("PAID", x.told(7), 9);
        x.cold(2);
        Check.due("with a COLD", x.told(7), 14);
        x.earn(2, 4);
        Check.given("pays with a COLD", x, x.pay(2, 0, 4), 0);
    }

    private static void chording() {
        FalseNotes x = Check.valley(THREE + "owes a b 9;owes b a 4;owes c b 1;");
        Check.given("chord", x, x.chord(1, 0), 4);
        Check.due("what is left", x.owed(0, 1), 5);
        Check.due("what is gone", x.owed(1, 0), 0);
        Check.due("no coins", x.told(6), 75);
        Check.due("nothing PAID", x.told(7), 0);
        Check.refused("0", x, x.chord(0, 1), 7);
        Check.refused("one side", x, x.chord(1, 2), 7);
        Check.refused("itself", x, x.chord(1, 1), 1);
        Check.refused("no SINGER", x, x.chord(1, 3), 1);
        FalseNotes y = Check.valley("singer a purse 0 line 1;singer b purse 0;singer c purse 0;"
                + "owes b a 5;owes c a 3;owes a b 5;owes a c 2;");
        Check.refused("what WAITS is no CHORD", y, y.chord(0, 2), 7);
        Check.given("both are gone", y, y.chord(0, 1), 5);
        Check.due("who WAITS gets the NOTE", y.held(0, 0, 0), 2);
        Check.given("now it is", y, y.chord(0, 2), 2);
    }

    private static void sundays() {
        FalseNotes x = Check.valley("singer a purse 0 line 1;singer b purse 0;singer c purse 0 deaf;"
                + "owes b a 39;owes c a 50;owes a b 3;owes a c 50;hums 10;");
        Check.given("SUNDAY", x, x.sunday(), 42 + 50 + 4 + 50);
        Check.due("rounded down", x.owed(1, 0), 42);
        Check.due("at least 1", x.owed(0, 1), 4);
        Check.due("not of a DEAF one", x.owed(0, 2), 50);
        Check.due("not what WAITS", x.owed(2, 0), 50);
        x.hum(0);
        Check.given("HUMS 0", x, x.sunday(), 146);
        x.hum(50);
        for (int i = 0; i < 30; i++) {
            x.sunday();
        }
        Check.due("999 at most", x.owed(1, 0), 999);
        Check.due("32 SUNDAYS", x.told(2), 32);
    }

    private static void lastSunday() {
        FalseNotes x = Check.valley("singer a purse 0;");
        Check.years(x, "loop 99;sunday;sunday;sunday;end;");
        for (int i = 0; i < 33; i++) {
            Check.given("300 STEPS, a SUNDAY each but the loop", x, x.live(i), 298);
        }
        Check.due("many SUNDAYS", x.told(2), 9801);
        Check.years(x, "loop 99;sunday;sunday;end;");
        x.live(0);
        Check.due("9,999", x.told(2), 9999);
        Check.due("198 were kept", x.lived(3), 198);
        Check.refused("one too many", x, x.sunday(), 4);
        Check.due("still", x.told(2), 9999);
        x.live(0);
        Check.due("all MISSED", x.lived(0), 198);
        Check.due("none kept", x.lived(3), 0);
    }

    private static void coldAndWell() {
        FalseNotes x = Check.valley("singer a purse 10 line 1;singer b purse 2 line 1;singer c purse 0;singer d purse 0;"
                + "owes a b 4;owes a c 5;owes a d 3;owes c b 7;owes d b 8;");
        Check.given("cold", x, x.cold(0), 10);
        Check.due("first LINE", x.owed(0, 1), 0);
        Check.due("second", x.owed(0, 2), 0);
        Check.due("as far as it goes", x.owed(0, 3), 2);
        Check.due("who WAITS", x.held(1, 0, 0), 2);
        Check.due("still WAITS", x.waiting(0, 0), 3);
        Check.due("PAID", x.told(7), 10);
        Check.due("set", x.told(8), 1);
        Check.refused("has one", x, x.cold(0), 7);
        Check.refused("no SINGER", x, x.cold(4), 1);
        Check.given("at the NOTE that it got", x, x.cold(2), 5);
        Check.refused("has none", x, x.well(1), 7);
        Check.refused("well, no SINGER", x, x.well(-1), 1);
        Check.given("well", x, x.well(0), 1);
        Check.given("well too", x, x.well(2), 0);
        Check.given("what WAITS is not PAID", x, x.cold(3), 0);
        x.die(3);
        Check.refused("cold of a DEAD one", x, x.cold(3), 1);
        Check.refused("well of a DEAD one", x, x.well(3), 1);
    }

    private static void coldBeforeAFullPurse() {
        FalseNotes x = Check.valley("singer a purse 90;singer b purse 9;singer c purse 0;owes a b 20;owes a c 30;");
        for (int i = 0; i < 9; i++) {
            x.earn(1, 999);
        }
        x.earn(1, 992);
        Check.due("9992", x.singer(1, 0), 9992);
        Check.given("to 9,999", x, x.cold(0), 37);
        Check.due("full", x.singer(1, 0), 9999);
        Check.due("left", x.owed(0, 1), 13);
    }

    private static void dying() {
        FalseNotes x = Check.valley("singer a purse 7 cold line 1 2;singer b purse 3;singer c purse 4 line 1;singer d purse 0;"
                + "owes a b 5;owes a c 6;owes d c 2;owes a d 9;owes b a 3;owes c a 4;owes d a 8;heir a b;");
        Check.due("two WAIT", x.told(4), 2);
        Check.given("die", x, x.die(0), 3);
        Check.due("PURSE", x.singer(1, 0), 10);
        Check.due("of the DEAD", x.singer(0, 0), 0);
        Check.due("no COLD", x.told(8), 0);
        Check.due("owed to the HEIR itself is gone", x.told(5), 6 + 2 + 9);
        Check.due("the HEIR owes", x.owed(1, 2), 6);
        Check.due("at the NOTE", x.held(2, 0, 0), 1);
        Check.due("and", x.owed(1, 3), 9);
        Check.due("what WAITS elsewhere stays", x.waiting(0, 0), 3);
        Check.due("what WAITED for it is gone", x.told(4), 1);
        Check.refused("DEAD", x, x.die(0), 1);
        Check.refused("no SINGER", x, x.die(4), 1);
        Check.refused("balance", x, x.balance(0), 1);
        Check.refused("behind", x, x.behind(0), 1);
        Check.refused("free", x, x.free(0), 1);
        Check.refused("queue", x, x.queue(0), 1);
        Check.refused("falsest", x, x.falsest(0), 1);
        Check.refused("whose", x, x.whose(0, 1), 1);
        Check.refused("earn", x, x.earn(0, 1), 1);
        Check.refused("name", x, x.name(0, 1), 1);
        Check.refused("name a DEAD HEIR", x, x.name(1, 0), 1);
        Check.refused("chord", x, x.chord(0, 1), 1);
        Check.refused("pay", x, x.pay(1, 0, 1), 1);
        x.tray(0, 2, 9);
        Check.refused("heard", x, x.heard(0, 0), 1);
        Check.refused("transposed", x, x.transposed(0, 0), 1);
        Check.refused("forged", x, x.forged(0, 0), 1);
        FalseNotes y = Check.valley("singer a purse 99;singer b purse 0;heir a b;");
        for (int i = 0; i < 10; i++) {
            y.earn(1, 995);
        }
        y.die(0);
        Check.due("what is more is lost", y.singer(1, 0), 9999);
    }

    private static void dyingWithoutHeir() {
        FalseNotes x = Check.valley("singer a purse 7;singer b purse 3 line 1;singer c purse 4;"
                + "owes a b 5;owes c b 6;owes a c 1;owes c a 2;heir a c;heir b a;");
        x.name(0, -1);
        x.die(0);
        Check.due("all is gone but", x.told(5), 6);
        Check.due("who WAITED", x.held(1, 0, 0), 2);
        Check.due("coins are gone", x.told(6), 7);
        x.die(1);
        Check.due("a DEAD HEIR is none", x.told(6), 4);
        Check.due("the HEIR is told still", x.singer(1, 4), 0);
        Check.given("all die", x, x.die(2), 0);
        Check.given("no row", x, x.chain(), 0);
        Check.refused("roomiest", x, x.roomiest(), 6);
        Check.due("set of DEAD", x.told(9), 7);
    }

    private static void dyingWhatWaits() {
        FalseNotes x = Check.valley("singer a purse 0 line 1;singer b purse 0 line 1;singer c purse 0;singer d purse 0;singer e purse 0;"
                + "owes b a 1;owes c a 2;owes d a 3;owes a b 4;owes c b 5;owes e b 6;heir c e;");
        x.die(2);
        Check.due("as many", x.told(4), 3);
        Check.due("d goes ahead", x.waiting(0, 0), 3);
        Check.due("e WAITS already", x.waiting(1, 0), 4);
        Check.due("for more", x.waiting(1, 2), 11);
        Check.due("e WAITS at the end", x.waiting(2, 0), 4);
        Check.due("for a", x.waiting(2, 1), 0);
        Check.due("as much", x.waiting(2, 2), 2);
        FalseNotes y = Check.valley("singer b purse 0 line 1 2;singer k purse 9;singer x purse 9;singer h purse 9;"
                + "singer z purse 0;owes k b 3;owes x b 4;owes z b 5;heir k h;");
        y.die(1);
        Check.due("the HEIR is ahead of who WAITS", y.held(0, 0, 0), 3);
        Check.due("who WAITS still", y.waiting(0, 0), 4);
        y.name(3, 4);
        y.die(3);
        Check.due("the HEIR that WAITS gets it behind all", y.held(0, 0, 0), 4);
        Check.due("together", y.held(0, 0, 1), 8);
    }

    private static void dyingWhatCantBe() {
        StringBuilder text = new StringBuilder("singer a purse 0;singer b purse 0;singer c purse 0;heir a b;owes a c 9;");
        for (int i = 0; i < 10; i++) {
            text.append("owes b c 99;");
        }
        FalseNotes x = Check.valley(text + "owes b c 1;");
        x.die(0);
        Check.due("what can't be is gone", x.owed(1, 2), 991);
        FalseNotes y = Check.valley(text.toString());
        y.die(0);
        Check.due("what can be", y.owed(1, 2), 999);
    }

    private static void earningNamingHumming() {
        FalseNotes x = Check.valley(THREE);
        Check.given("earn", x, x.earn(2, 999), 1004);
        Check.refused("earn 0", x, x.earn(2, 0), 1);
        Check.refused("earn 1000", x, x.earn(2, 1000), 1);
        Check.refused("earn, no SINGER", x, x.earn(3, 1), 1);
        Check.given("name", x, x.name(0, 2));
        Check.due("HEIR", x.singer(0, 4), 2);
        Check.given("name none", x, x.name(0, -1));
        Check.refused("HEIR", x, x.singer(0, 4), 6);
        Check.refused("name itself", x, x.name(1, 1), 1);
        Check.refused("name no SINGER", x, x.name(1, 3), 1);
        Check.refused("name -2", x, x.name(1, -2), 1);
        Check.refused("no SINGER names", x, x.name(-1, -1), 1);
        Check.given("hum", x, x.hum(50));
        Check.due("HUMS", x.told(1), 50);
        Check.refused("hum 51", x, x.hum(51), 1);
        Check.refused("hum -1", x, x.hum(-1), 1);
        Check.given("hum 0", x, x.hum(0));
    }

    private static void allChords() {
        FalseNotes x = Check.valley("singer a purse 0;singer b purse 0;singer c purse 0;"
                + "owes a b 9;owes b a 4;owes c b 1;owes b c 7;owes a c 2;");
        Check.given("chords", x, x.chords(), 5);
        Check.due("left", x.told(5), 5 + 6 + 2);
        Check.given("none more", x, x.chords(), 0);
        FalseNotes y = Check.valley("singer a purse 0 line 1;singer b purse 0;singer c purse 0;"
                + "owes b a 5;owes c a 3;owes a b 5;owes a c 2;");
        Check.given("a CHORD gives the NOTE to who WAITS, who is netted later", y, y.chords(), 7);
        Check.due("left", y.owed(2, 0), 1);
    }

    private static void living() {
        FalseNotes x = Check.valley(THREE + "heir b a;hums 10;");
        Check.refused("no YEARS", x, x.live(0), 6);
        Check.refused("seed ahead of that", x, x.live(-1), 1);
        Check.refused("none was lived", x, x.lived(0), 6);
        Check.refused("what ahead of that", x, x.lived(5), 1);
        Check.years(x, "lend a to b 30;lend c to a 5;sunday;pay b to a 13;chord a b;cold b;die b;stop;any;");
        Check.refused("seed 10,000", x, x.live(10000), 1);
        Check.given("live", x, x.live(9999), 8);
        Check.due("MISSED: a CHORD of 0", x.lived(0), 1);
        Check.due("lent", x.lived(1), 35);
        Check.due("PAID", x.lived(2), 13 + 20);
        Check.due("SUNDAYS", x.lived(3), 1);
        Check.due("none was left", x.lived(4), 0);
        Check.refused("lived 5", x, x.lived(5), 1);
        Check.refused("lived -1", x, x.lived(-1), 1);
        Check.due("all is as it is then", x.told(9), 2);
        Check.due("coins", x.singer(0, 0), 50 + 20 + 5);
        Check.due("what is owed", x.told(5), 6);
        Check.due("SUNDAY", x.told(2), 1);
        Check.due("all PAID", x.told(7), 33);
        Check.refused("another seed", x, x.live(10000), 1);
        Check.due("of the latest with STATUS 0", x.lived(1), 35);
        Check.choir(x, "");
        Check.due("behind another CHOIR, too", x.lived(1), 35);
    }

    private static void livingMissed() {
        FalseNotes x = Check.valley(THREE + "singer d purse 0 cold;");
        Check.years(x, "lend a to a 1;lend a to d 1;lend d to a 1;pay a to b 1;pay a to a 1;chord a a;chord a b;"
                + "cold d;die d;die d;cold d;lend a to d 1;lend d to a 1;pay d to a 1;chord a d;");
        Check.given("STEPS", x, x.live(0), 15);
        Check.due("MISSED but the first death", x.lived(0), 14);
        Check.due("nothing lent", x.lived(1), 0);
        Check.years(x, "die a;die b;die c;any;");
        Check.given("all die", x, x.live(0), 4);
        Check.due("any of none is MISSED", x.lived(0), 1);
    }

    private static int sundaysOf(FalseNotes x, String test) {
        Check.years(x, "when " + test + ";sunday;end;");
        x.live(0);
        return x.lived(3);
    }

    private static void livingTests() {
        FalseNotes x = Check.valley("singer a purse 50 line 1;singer b purse 20;singer c purse 5;singer d purse 1;"
                + "owes b a 7;owes c a 9;heir a b;");
        String[] hold = {"debt b to a=7", "debt b to a<8", "debt b to a>6", "debt c to a=9", "debt a to b=0",
            "debt a to a=0", "purse a=50", "purse a<51", "purse a>49", "purse a<9999", "still d"};
        String[] fail = {"debt b to a=6", "debt b to a<7", "debt b to a>7", "debt a to a>0", "purse a=0", "purse a<50",
            "purse a>50", "still a", "still b", "still c"};
        for (String test : hold) {
            Check.due(test, sundaysOf(x, test), 1);
        }
        for (String test : fail) {
            Check.due(test, sundaysOf(x, test), 0);
        }
        x.die(0);
        Check.due("purse of a DEAD one", sundaysOf(x, "purse a=0"), 1);
        Check.due("debt to a DEAD one", sundaysOf(x, "debt b to a=0"), 1);
        Check.due("not above", sundaysOf(x, "debt b to a>0"), 0);
        Check.due("a DEAD one is still", sundaysOf(x, "still a"), 1);
        Check.due("a test is never MISSED", x.lived(0), 0);
    }

    private static void livingLoops() {
        FalseNotes x = Check.valley(THREE);
        Check.years(x, "loop 3;sunday;loop 2;sunday;end;end;");
        Check.given("1 + 3 * (1 + 1 + 2)", x, x.live(0), 13);
        Check.due("SUNDAYS", x.lived(3), 9);
        Check.years(x, "loop 99;end;sunday;");
        Check.given("a loop of none", x, x.live(0), 2);
        Check.years(x, "loop 99;loop 99;loop 99;end;end;end;sunday;");
        Check.given("300 STEPS", x, x.live(0), 300);
        Check.due("some are left", x.lived(4), 1);
        Check.years(x, "loop 3;loop 99;sunday;end;end;");
        Check.given("1 + 3 * 100 is one more", x, x.live(0), 300);
        Check.due("one is left", x.lived(4), 1);
        Check.due("SUNDAYS 296", x.lived(3), 296);
        Check.years(x, "loop 99;sunday;sunday;sunday;end;sunday;sunday;");
        Check.given("just 300", x, x.live(0), 300);
        Check.due("none is left", x.lived(4), 0);
        Check.years(x, "loop 99;sunday;sunday;sunday;end;sunday;sunday;stop;");
        Check.given("a stop is left", x, x.live(0), 300);
        Check.due("it is one", x.lived(4), 1);
        Check.years(x, "loop 99;sunday;sunday;sunday;end;sunday;loop 5;end;");
        Check.given("ends are none", x, x.live(0), 300);
        Check.due("none is left behind ends", x.lived(4), 0);
        Check.years(x, "loop 99;sunday;sunday;sunday;end;sunday;when purse a>9000;sunday;end;");
        Check.given("a when that fails", x, x.live(0), 300);
        Check.due("goes past its STEPS", x.lived(4), 0);
        Check.years(x, "loop 2;when purse a=50;lend a to b 1;when purse a=50;stop;end;end;end;sunday;");
        Check.given("loop, when, lend, when, when, sunday", x, x.live(0), 6);
        Check.years(x, "loop 9;when purse a<50;stop;end;sunday;end;");
        Check.given("stop stops all", x, x.live(0), 3);
        Check.due("nothing is left behind a stop", x.lived(4), 0);
    }

    private static void livingByDraws() {
        FalseNotes x = Check.valley("singer a purse 99;singer b purse 99;singer c purse 99;singer d purse 99;");
        x.die(1);
        Check.years(x, "any;");
        int[] living = {0, 2, 3};
        for (int seed = 0; seed < 100; seed++) {
            int s = seed;
            s = (s * 2971 + 11173) % 65536;
            int from = living[s / 8 % 3];
            s = (s * 2971 + 11173) % 65536;
            int to = living[s / 8 % 3];
            s = (s * 2971 + 11173) % 65536;
            int n = s / 8 % 20 + 1;
            x.mark();
            Check.given("any", x, x.live(seed), 1);
            Check.due("MISSED of " + seed, x.lived(0), from == to ? 1 : 0);
            Check.due("lent of " + seed, x.lived(1), from == to ? 0 : n);
            Check.due("owed of " + seed, x.owed(to, from), from == to ? -1 : n);
            x.undo();
        }
    }

    private static void means() {
        FalseNotes x = Check.valley(THREE + "hums 10;");
        Check.refused("no YEARS", x, x.mean(0, 1), 6);
        Check.refused("seed ahead of that", x, x.mean(-1, 1), 1);
        Check.years(x, "any;any;any;sunday;");
        Check.refused("many 0", x, x.mean(0, 0), 1);
        Check.refused("many 21", x, x.mean(0, 21), 1);
        Check.refused("the last above 9,999", x, x.mean(9981, 20), 1);
        Check.refused("seed 10,000", x, x.mean(10000, 1), 1);
        Check.due("top stays", x.top(), 0);
        long sum = 0;
        for (int seed = 9980; seed <= 9999; seed++) {
            x.mark();
            x.live(seed);
            sum += x.told(5);
            x.undo();
        }
        int lent = x.lived(1);
        Check.given("mean", x, x.mean(9980, 20));
        Check.due("top by bottom", x.top() * 20, sum * x.bottom());
        Check.due("without a common divisor", x.bottom() % 2 == 0 && x.top() % 2 == 0
                || x.bottom() % 5 == 0 && x.top() % 5 == 0, false);
        Check.due("all stays", x.told(5) + x.told(2), 0);
        Check.due("what was lived stays", x.lived(1), lent);
        Check.years(x, "sunday;");
        Check.given("mean of nothing", x, x.mean(3, 7));
        Check.due("0", x.top(), 0);
        Check.due("by 1", x.bottom(), 1);
        Check.due("SUNDAY stays", x.told(2), 0);
    }

    private static void marks() {
        FalseNotes x = Check.valley(THREE + "owes a b 9;hums 10;heir a b;");
        Check.years(x, "sunday;");
        Check.given("one", x, x.mark(), 1);
        x.pay(0, 1, 4);
        x.hum(7);
        Check.given("two", x, x.mark(), 2);
        x.sunday();
        x.cold(2);
        x.name(0, 2);
        x.die(0);
        Check.years(x, "any;any;");
        Check.given("three", x, x.mark(), 3);
        Check.refused("four", x, x.mark(), 4);
        Check.choir(x, "singer z purse 3;");
        Check.given("undo a CHOIR", x, x.undo(), 2);
        Check.due("SINGERS", x.told(0), 3);
        Check.due("DEAD", x.told(9), 1);
        Check.due("YEARS", x.live(0), 2);
        Check.given("undo a death", x, x.undo(), 1);
        Check.due("DEAD none", x.told(9), 0);
        Check.due("COLD none", x.told(8), 0);
        Check.due("HEIR", x.singer(0, 4), 1);
        Check.due("SUNDAY", x.told(2), 0);
        Check.due("PAID", x.told(7), 4);
        Check.due("HUMS", x.told(1), 7);
        x.tray(0, 0, 1);
        x.bass();
        Check.given("undo", x, x.undo(), 0);
        Check.due("PAID nothing", x.told(7), 0);
        Check.due("DEBT", x.owed(0, 1), 9);
        Check.due("HUMS", x.told(1), 10);
        Check.due("YEARS of then", x.live(0), 1);
        Check.given("TRAYS stay", x, x.read(0, 0), 0);
        Check.refused("none left", x, x.undo(), 6);
        FalseNotes y = new FalseNotes();
        Check.given("a MARK of nothing", y, y.mark(), 1);
        Check.choir(y, THREE);
        Check.years(y, "any;");
        Check.given("back to nothing", y, y.undo(), 0);
        Check.due("no SINGERS", y.told(0), 0);
        Check.refused("no YEARS", y, y.live(0), 6);
    }
}
