/** The promises that stand apart from the doings: objects, TRAYS, texts, what is told of a CHOIR (1 to 20). */
public final class PromisesTest {
    private static final String FOUR = "singer a purse 50 line 5 7;singer b purse 20 bass;"
            + "singer c purse 0 cold line 1;singer d purse 9 deaf;owes b a 10;owes c a 4;owes d a 6;"
            + "owes a b 3;owes a d 7;heir b c;hums 10;";

    public static void main(String[] args) {
        newObject();
        statusStays();
        makingTrays();
        writingAndReading();
        pouring();
        feeding();
        takingChoirs();
        tokensOfChoirs();
        faultsOfChoirs();
        roomOfOwes();
        takingYears();
        faultsOfYears();
        faultTold();
        toldAndSinger();
        lineHeldOwedWaiting();
        sungAndCopied();
        Check.end();
    }

    private static void newObject() {
        FalseNotes x = new FalseNotes();
        Check.due("NONE", FalseNotes.NONE, -1);
        Check.due("status", x.status(), 0);
        Check.due("top", x.top(), 0);
        Check.due("bottom", x.bottom(), 1);
        Check.due("fault 0 ahead of any", x.fault(0), -1);
        Check.due("fault 1 ahead of any", x.fault(1), -1);
        for (int what = 0; what <= 9; what++) {
            Check.given("told " + what, x, x.told(what), 0);
        }
        for (int tray = 0; tray < 4; tray++) {
            Check.refused("read of a MISSING one", x, x.read(tray, 0), 2);
        }
        Check.refused("live without YEARS", x, x.live(0), 6);
        Check.refused("undo without MARKS", x, x.undo(), 6);
        Check.refused("choir of an empty tape", x, x.choir(1), 1);
        Check.due("HUMS 0", x.grows(100, 9), 100);
    }

    private static void statusStays() {
        FalseNotes x = new FalseNotes();
        Check.refused("told 10", x, x.told(10), 1);
        x.top();
        x.bottom();
        x.feed(0, 0, 0, 0, 0);
        x.fault(0);
        x.fault(7);
        Check.due("status is of the latest that has one", x.status(), 1);
        x.told(0);
        Check.due("status is 0 again", x.status(), 0);
    }

    private static void makingTrays() {
        FalseNotes x = new FalseNotes();
        Check.refused("tray -1", x, x.tray(-1, 0, 1), 1);
        Check.refused("tray 4", x, x.tray(4, 0, 1), 1);
        Check.refused("sort -1", x, x.tray(0, -1, 1), 1);
        Check.refused("sort 4", x, x.tray(0, 4, 1), 1);
        Check.refused("many -1", x, x.tray(0, 0, -1), 1);
        Check.refused("many 61", x, x.tray(0, 0, 61), 1);
        Check.refused("still MISSING", x, x.read(0, 0), 2);
        Check.given("tray of 60", x, x.tray(3, 3, 60));
        Check.given("last place", x, x.read(3, 59), 0);
        Check.refused("behind it", x, x.read(3, 60), 3);
        Check.given("tray of 0", x, x.tray(0, 0, 0));
        Check.refused("no place in it", x, x.read(0, 0), 3);
        x.write(3, 59, 5);
        Check.given("made again", x, x.tray(3, 3, 60));
        Check.given("of 0s", x, x.read(3, 59), 0);
    }

    private static void writingAndReading() {
        FalseNotes x = new FalseNotes();
        for (int sort = 0; sort < 4; sort++) {
            x.tray(sort, sort, 2);
        }
        long v = 0x8123456789abcdefL;
        long[] cut = {(byte) v, (short) v, (int) v, v};
        for (int sort = 0; sort < 4; sort++) {
            Check.given("write", x, x.write(sort, 1, v));
            Check.given("cut to sort " + sort, x, x.read(sort, 1), cut[sort]);
            Check.given("write -1", x, x.write(sort, 0, -1));
            Check.given("read -1", x, x.read(sort, 0), -1);
        }
        x.write(0, 0, 128);
        Check.due("128 of 8 bits", x.read(0, 0), -128);
        x.write(1, 0, 32768 + 65536);
        Check.due("32768 of 16 bits", x.read(1, 0), -32768);
        x.write(2, 0, 1L << 31);
        Check.due("of 32 bits", x.read(2, 0), Integer.MIN_VALUE);
        Check.refused("write to no TRAY", x, x.write(4, 0, 1), 1);
        Check.refused("write to no place", x, x.write(0, 2, 1), 3);
        Check.refused("write below 0", x, x.write(0, -1, 1), 3);
        Check.refused("read of no TRAY", x, x.read(-1, 0), 1);
        Check.refused("read below 0", x, x.read(0, -1), 3);
        FalseNotes y = new FalseNotes();
        Check.refused("write, MISSING", y, y.write(0, 0, 1), 2);
    }

    private static void pouring() {
        FalseNotes x = new FalseNotes();
        Check.refused("below 0 ahead of MISSING", x, x.pour(0, -1, 1, 0, 0), 1);
        Check.refused("at below 0", x, x.pour(0, 0, 1, -1, 0), 1);
        Check.refused("many below 0", x, x.pour(0, 0, 1, 0, -1), 1);
        Check.refused("no TRAY from", x, x.pour(4, 0, 1, 0, 0), 1);
        Check.refused("no TRAY to", x, x.pour(0, 0, -1, 0, 0), 1);
        x.tray(0, 2, 5);
        Check.refused("to is MISSING", x, x.pour(0, 0, 1, 0, 1), 2);
        Check.refused("from is MISSING", x, x.pour(1, 0, 0, 0, 1), 2);
        x.tray(1, 1, 3);
        Check.refused("unlike ahead of place", x, x.pour(0, 9, 1, 9, 9), 8);
        x.tray(1, 2, 3);
        Check.refused("too few in from", x, x.pour(0, 4, 1, 0, 2), 3);
        Check.refused("too few in to", x, x.pour(0, 0, 1, 2, 2), 3);
        Check.refused("far places", x, x.pour(0, Integer.MAX_VALUE, 1, 0, Integer.MAX_VALUE), 3);
        for (int i = 0; i < 5; i++) {
            x.write(0, i, i + 1);
        }
        Check.given("pour", x, x.pour(0, 2, 1, 0, 3));
        Check.due("first", x.read(1, 0), 3);
        Check.due("last", x.read(1, 2), 5);
        Check.given("its own, onwards", x, x.pour(0, 0, 0, 1, 4));
        for (int i = 1; i < 5; i++) {
            Check.due("as they were " + i, x.read(0, i), i);
        }
        Check.given("its own, back", x, x.pour(0, 1, 0, 0, 4));
        for (int i = 0; i < 4; i++) {
            Check.due("as they were, back " + i, x.read(0, i), i + 1);
        }
        Check.given("none at all", x, x.pour(0, 5, 1, 3, 0));
    }

    private static void feeding() {
        FalseNotes x = new FalseNotes();
        for (int i = 1; i <= 45; i++) {
            Check.due("feed " + i, x.feed(0x20202020, 0x20202020, 0x20202020, 0x20202020, 0x20202020), 20 * i);
        }
        Check.due("feed above 900", x.feed(0, 0, 0, 0, 0), -1);
        Check.due("no STATUS", x.status(), 0);
        Check.refused("choir above the tape", x, x.choir(901), 1);
        Check.given("900 blanks", x, x.choir(900), 0);
        Check.due("empty then", x.feed(0, 0, 0, 0, 0), 20);
    }

    private static void takingChoirs() {
        FalseNotes x = Check.valley(FOUR);
        Check.refused("n below 0", x, x.choir(-1), 1);
        Check.refused("n above the tape", x, x.choir(1), 1);
        Check.given("YEARS", x, Check.years(x, "sunday;"), 1);
        x.sunday();
        x.pay(0, 1, 1);
        x.die(3);
        Check.refused("a FAULT", x, Check.choir(x, "singer a purse 1;singer"), 9);
        Check.due("the old one stays", x.told(0), 4);
        Check.due("its SUNDAY stays", x.told(2), 1);
        Check.due("its YEARS stay", x.live(0), 1);
        Check.given("a new one", x, Check.choir(x, "singer z purse 7;"), 1);
        Check.due("SUNDAY 0", x.told(2), 0);
        Check.due("HUMS 0", x.told(1), 0);
        Check.due("nothing PAID", x.told(7), 0);
        Check.due("nothing owed", x.told(5), 0);
        Check.due("none DEAD", x.told(9), 0);
        Check.due("no COLD", x.told(8), 0);
        Check.refused("no YEARS", x, x.live(0), 6);
        Check.refused("no HEIR", x, x.singer(0, 4), 6);
        Check.given("a CHOIR of none", x, x.choir(0), 0);
        Check.due("no SINGERS", x.told(0), 0);
        Check.feed(x, "hums 7;singer a purse 1;");
        Check.given("the first bytes alone", x, x.choir(7), 0);
        Check.due("HUMS 7", x.told(1), 7);
        Check.refused("the tape is empty then", x, x.choir(1), 1);
    }

    private static void tokensOfChoirs() {
        FalseNotes x = Check.valley("singer a purse 0007bass deaf cold line0 24\n12;hums0;singer abcdefgh purse 999 line 3;");
        Check.due("digits behind letters", x.singer(0, 0), 7);
        Check.due("three NOTES", x.singer(0, 1), 3);
        Check.due("bass", x.singer(0, 2), 1);
        Check.due("deaf", x.singer(0, 3), 1);
        Check.due("cold", x.told(8), 1);
        Check.due("eight letters", x.singer(1, 0), 999);
        Check.given("HEIR told again", x, Check.choir(x,
                "singer a purse 0;singer b purse 0;singer c purse 0;heir a b;heir a c;heir b a;"), 3);
        Check.due("the latest", x.singer(0, 4), 2);
        Check.due("of b", x.singer(1, 4), 0);
        Check.due("without a line", x.line(2, 0) * 10000 + x.line(2, 1) * 100 + x.line(2, 2), 121416);
        Check.given("keywords as parts of NAMES", x, Check.choir(x, "singer singers purse 1;singer sing purse 1;"), 2);
        String[] none = {"singer", "purse", "bass", "cold", "deaf", "line", "owes", "heir", "hums", "lend", "to",
            "pay", "sunday", "die", "chord", "any", "when", "debt", "still", "loop", "end", "stop"};
        for (String word : none) {
            Check.choirFault("singer " + word + " purse 1;", 2, 7);
        }
    }

    private static void faultsOfChoirs() {
        Check.choirFault("A", 1, 0);
        Check.choirFault(" &", 1, 1);
        Check.choirFault("\t", 1, 0);
        Check.choirFault("singer \u00e9", 1, 7);
        Check.choirFault("12345", 1, 0);
        Check.choirFault("hums 00001;", 1, 5);
        Check.choirFault("1234", 2, 0);
        Check.choirFault(";", 2, 0);
        Check.choirFault("hums 1;;", 2, 7);
        Check.choirFault("hums <", 2, 5);
        Check.choirFault("hums 1 >", 2, 7);
        Check.choirFault("hums =", 2, 5);
        Check.choirFault("purse", 2, 0);
        Check.choirFault("singers a", 2, 0);
        Check.choirFault("singer", 2, 6);
        Check.choirFault("singer  ", 2, 8);
        Check.choirFault("singer 1", 2, 7);
        Check.choirFault("singer abcdefghi purse 1;", 2, 7);
        Check.choirFault("singer a purse", 2, 14);
        Check.choirFault("singer a purse b", 2, 15);
        Check.choirFault("singer a purse 1 1;", 2, 17);
        Check.choirFault("singer a purse 1 b;", 2, 17);
        Check.choirFault("singer a purse 1 line 1 line 2;", 2, 24);
        Check.choirFault("singer a purse 1 line bass;", 2, 22);
        Check.choirFault("singer a purse 1\n", 2, 17);
        Check.choirFault("singer a purse 1 bass cold deaf bass", 5, 32);
        Check.choirFault("singer a purse 1 cold bass cold;", 5, 27);
        Check.choirFault("singer a purse 1 deaf deaf;", 5, 22);
        Check.choirFault("singer a purse 9999;", 4, 15);
        Check.choirFault("singer a purse 1 line 1 2 3 4 5 6 25;", 4, 34);
        Check.choirFault("singer a purse 1 line 1 2 3 4 5 6 24;", 6, 34);
        Check.choirFault("singer a purse 1 line 1 2 3 4 5 6 12345;", 1, 34);
        Check.choirFault("owes a b 1;", 3, 5);
        Check.choirFault("heir a b;singer a purse 1;", 3, 5);
        Check.choirFault("singer a purse 1;heir a abcdefghi;", 2, 24);
        Check.choirFault("singer a purse 1;owes cold a 1;", 2, 22);
        Check.choirFault("singer a purse 1;singer b purse 1;owes a b;", 2, 42);
        Check.choirFault("singer a purse 1;singer b purse 1;owes a b 1", 2, 44);
        Check.choirFault("singer a purse 1;singer b purse 1;heir a b", 2, 42);
        Check.choirFault("hums 50;hums 51", 5, 8);
        Check.choirFault("hums 51;hums 1;", 4, 5);
    }

    private static void roomOfOwes() {
        StringBuilder nine = new StringBuilder();
        for (char c = 'a'; c <= 'h'; c++) {
            nine.append("singer ").append(c).append(" purse 0 line 1;");
        }
        // one holds the NOTE of a, six WAIT for it; one holds that of b, two WAIT
        for (char c = 'b'; c <= 'h'; c++) {
            nine.append("owes ").append(c).append(" a 1;");
        }
        nine.append("owes a b 1;owes c b 1;owes d b 1;");
        FalseNotes x = Check.valley(nine.toString());
        Check.due("8 WAIT", x.told(4), 8);
        Check.due("2 stand", x.told(3), 2);
        Check.choirFault(nine + "owes e b 1;", 6, nine.length() + 9);
        Check.choirFault(nine + "owes e b 0;", 4, nine.length() + 9);
        Check.given("more of what WAITS", x, Check.choir(x, nine + "owes d b 99;"), 8);
        Check.due("is more", x.owed(3, 1), 100);
        Check.given("a FREE NOTE", x, Check.choir(x, nine + "owes a c 99;"), 8);
        StringBuilder waits = new StringBuilder(nine);
        for (int i = 0; i < 11; i++) {
            waits.append("owes d b 99;");
        }
        Check.choirFault(waits.toString(), 6, nine.length() + 10 * 12 + 9);
        StringBuilder full = new StringBuilder("singer a purse 1 cold;singer b purse 1;");
        for (int i = 0; i < 10; i++) {
            full.append("owes a b 99;");
        }
        full.append("owes a b 9;");
        FalseNotes y = Check.valley(full.toString());
        Check.due("999 can be, with a COLD, without coins", y.owed(0, 1), 999);
        Check.due("no coin went over", y.singer(0, 0) * 10 + y.singer(1, 0), 11);
        Check.choirFault(full + "owes a b 1;", 6, full.length() + 9);
        Check.choirFault(nine + "singer i purse 1;", 6, nine.length());
    }

    private static void takingYears() {
        FalseNotes x = Check.valley(FOUR);
        Check.refused("n below 0", x, x.years(-1), 1);
        Check.refused("n above the tape", x, x.years(1), 1);
        Check.given("all STEPS", x, Check.years(x, "lend a to b 99;pay b to a 999;sunday;cold a;die d;chord a b;any;"
                + "when debt a to b<999;end;when purse a>9999;stop;end;when still a;end;loop 99;when still a;"
                + "loop 1;end;end;end;stop;"), 15);
        Check.given("the same NAME twice", x, Check.years(x, "lend a to a 1;chord a a;when debt a to a=0;end;"), 3);
        StringBuilder thirty = new StringBuilder();
        for (int i = 0; i < 30; i++) {
            thirty.append("any;");
        }
        Check.given("30 STEPS", x, Check.years(x, thirty.toString()), 30);
        Check.yearsFault(x, thirty + "any;", 6, 120);
        Check.yearsFault(x, thirty + "end;", 2, 120);
        Check.yearsFault(x, thirty + "ant;", 2, 120);
        Check.due("the old ones stay", x.live(0), 30);
        StringBuilder long301 = new StringBuilder("any;");
        while (long301.length() < 301) {
            long301.append(' ');
        }
        Check.feed(x, long301.toString());
        Check.refused("above 300", x, x.years(301), 1);
        Check.given("300", x, x.years(300), 1);
        x.die(3);
        Check.given("a DEAD one's NAME", x, Check.years(x, "cold d;die d;"), 2);
        Check.due("both done", x.live(0), 2);
        Check.due("both MISSED", x.lived(0), 2);
        Check.given("YEARS of no STEPS", x, x.years(0), 0);
        Check.given("are lived", x, x.live(0), 0);
        Check.given("nested thrice", x, Check.years(x, "loop 1;loop 1;when still a;any;end;end;end;"), 4);
        String two = "loop 2;end;loop 2;end;loop 2;end;loop 2;end;";
        Check.given("one behind the other", x, Check.years(x, two), 4);
        StringBuilder loops = new StringBuilder();
        for (int i = 0; i < 10; i++) {
            loops.append("loop 1;loop 1;loop 1;end;end;end;");
        }
        Check.feed(x, loops.toString());
        Check.refused("330 bytes", x, x.years(330), 1);
    }

    private static void faultsOfYears() {
        FalseNotes x = Check.valley(FOUR);
        Check.yearsFault(x, "#", 1, 0);
        Check.yearsFault(x, "loop 12345;", 1, 5);
        Check.yearsFault(x, "singer", 2, 0);
        Check.yearsFault(x, "end;", 2, 0);
        Check.yearsFault(x, "loop 1;end;end;", 2, 11);
        Check.yearsFault(x, "loop 1;", 2, 7);
        Check.yearsFault(x, "loop 1; ", 2, 8);
        Check.yearsFault(x, "loop 1;end", 2, 10);
        Check.yearsFault(x, "any", 2, 3);
        Check.yearsFault(x, "lend a b 1;", 2, 7);
        Check.yearsFault(x, "lend a to cold 1;", 2, 10);
        Check.yearsFault(x, "lend a to b to", 2, 12);
        Check.yearsFault(x, "lend abcdefghi to b 1;", 2, 5);
        Check.yearsFault(x, "when any;", 2, 5);
        Check.yearsFault(x, "when debt a b", 2, 12);
        Check.yearsFault(x, "when debt a to b;", 2, 16);
        Check.yearsFault(x, "when debt a to b 1;", 2, 17);
        Check.yearsFault(x, "when purse a", 2, 12);
        Check.yearsFault(x, "when still a<1;", 2, 12);
        Check.yearsFault(x, "chord a to b;", 2, 8);
        Check.yearsFault(x, "lend e to a 1;", 3, 5);
        Check.yearsFault(x, "lend a to e 1;", 3, 10);
        Check.yearsFault(x, "cold e;", 3, 5);
        Check.yearsFault(x, "die e;", 3, 4);
        Check.yearsFault(x, "chord a e;", 3, 8);
        Check.yearsFault(x, "when still e;", 3, 11);
        Check.yearsFault(x, "lend a to b 0;", 4, 12);
        Check.yearsFault(x, "lend a to b 100;", 4, 12);
        Check.yearsFault(x, "pay a to b 0;", 4, 11);
        Check.yearsFault(x, "pay a to b 1000;", 4, 11);
        Check.yearsFault(x, "when debt a to b > 1000;", 4, 19);
        Check.yearsFault(x, "loop 0;", 4, 5);
        Check.yearsFault(x, "loop 100;", 4, 5);
        Check.yearsFault(x, "loop 1;loop 1;when still a;loop 1;", 7, 27);
        Check.yearsFault(x, "loop 1;loop 1;when still a;when", 7, 27);
        StringBuilder deep = new StringBuilder();
        for (int i = 0; i < 27; i++) {
            deep.append("any;");
        }
        deep.append("loop 1;loop 1;loop 1;");
        Check.yearsFault(x, deep + "loop 1;", 6, deep.length());
        Check.refused("none was taken", x, x.live(0), 6);
    }

    private static void faultTold() {
        FalseNotes x = new FalseNotes();
        Check.choir(x, "hums 1;x");
        Check.due("kind", x.fault(0), 2);
        Check.due("place", x.fault(1), 7);
        Check.due("another", x.fault(2), -1);
        Check.due("below", x.fault(-1), -1);
        x.choir(1);
        Check.due("STATUS 1 does not tell", x.fault(0), 2);
        Check.years(x, "loop 1;");
        Check.due("of YEARS", x.fault(1), 7);
        Check.years(x, "any;");
        Check.due("none", x.fault(0), 0);
        Check.due("no place", x.fault(1), -1);
    }

    private static void toldAndSinger() {
        FalseNotes x = Check.valley(FOUR);
        int[] told = {4, 10, 0, 4, 1, 30, 79, 0, 4, 0};
        for (int what = 0; what < told.length; what++) {
            Check.given("told " + what, x, x.told(what), told[what]);
        }
        Check.refused("told -1", x, x.told(-1), 1);
        Check.refused("told 10", x, x.told(10), 1);
        x.pay(0, 1, 3);
        x.chord(0, 1);
        x.sunday();
        Check.due("PAID", x.told(7), 3);
        Check.due("SUNDAY", x.told(2), 1);
        x.die(2);
        Check.due("with DEAD ones", x.told(0), 4);
        Check.due("the COLD one is DEAD", x.told(8), 0);
        Check.due("the DEAD", x.told(9), 4);
        int[] first = {47, 2, 0, 0, -1, 7, 17};
        for (int what = 0; what < first.length; what++) {
            Check.due("singer 0 " + what, x.singer(0, what), first[what]);
        }
        Check.refused("no HEIR", x, x.singer(0, 4), 6);
        Check.due("a DEAD HEIR", x.singer(1, 4), 2);
        Check.due("a DEAD one", x.singer(2, 1), 1);
        Check.refused("singer -1", x, x.singer(-1, 0), 1);
        Check.refused("singer 4", x, x.singer(4, 0), 1);
        Check.refused("what -1", x, x.singer(0, -1), 1);
        Check.refused("what 7", x, x.singer(0, 7), 1);
        Check.refused("no SINGER ahead of what", x, x.singer(9, 4), 1);
    }

    private static void lineHeldOwedWaiting() {
        FalseNotes x = Check.valley(FOUR);
        Check.due("line", x.line(0, 0), 5);
        Check.due("line of a BASS is true", x.line(1, 2), 16);
        Check.refused("no NOTE", x, x.line(0, 2), 1);
        Check.refused("note below 0", x, x.line(0, -1), 1);
        Check.refused("no SINGER", x, x.line(4, 0), 1);
        Check.due("held", x.held(0, 1, 0), 2);
        Check.due("DEBT", x.held(0, 1, 1), 4);
        Check.refused("FREE", x, x.held(2, 0, 0), 6);
        Check.refused("what ahead of FREE", x, x.held(2, 0, 2), 1);
        Check.refused("what below", x, x.held(0, 0, -1), 1);
        Check.refused("no such NOTE", x, x.held(2, 1, 0), 1);
        Check.due("owed", x.owed(1, 0), 10);
        Check.due("owed that WAITS", x.owed(3, 0), 6);
        Check.given("owed nothing", x, x.owed(2, 3), 0);
        Check.refused("one and itself", x, x.owed(1, 1), 1);
        Check.refused("owed, no SINGER", x, x.owed(4, 1), 1);
        Check.refused("owed, no other SINGER", x, x.owed(1, -1), 1);
        Check.due("who", x.waiting(0, 0), 3);
        Check.due("to whom", x.waiting(0, 1), 0);
        Check.due("how many", x.waiting(0, 2), 6);
        Check.refused("what", x, x.waiting(0, 3), 1);
        Check.refused("what below, ahead of no such", x, x.waiting(5, -1), 1);
        Check.refused("no such", x, x.waiting(1, 0), 6);
        Check.refused("no such below", x, x.waiting(-1, 0), 6);
        x.die(0);
        Check.due("line of a DEAD one", x.line(0, 1), 7);
        Check.refused("held of a DEAD one: FREE", x, x.held(0, 0, 0), 6);
        Check.given("owed to a DEAD one", x, x.owed(1, 0), 0);
        Check.given("owed by a DEAD one", x, x.owed(0, 3), 0);
    }

    private static void sungAndCopied() {
        FalseNotes x = Check.valley("singer a purse 50 bass line 11 0;singer b purse 9 line 24 0 1 2 3 4;owes b a 12;"
                + "owes a b 99;owes a b 99;");
        Check.given("sung -1 is no NONE", x, x.sung(0, 0) - 12, -1);
        Check.given("below 0", x, x.sung(0, 1), -12);
        Check.due("with its DEBT", x.sung(1, 0), 222);
        Check.refused("sung, no NOTE", x, x.sung(0, 2), 1);
        Check.refused("sung, no SINGER", x, x.sung(2, 0), 1);
        Check.refused("copy, no TRAY", x, x.copySung(0, 4), 1);
        Check.refused("copy, no SINGER ahead of MISSING", x, x.copySung(2, 0), 1);
        Check.refused("copy, MISSING", x, x.copySung(0, 0), 2);
        x.tray(0, 0, 1);
        Check.refused("copy, too few", x, x.copySung(0, 0), 3);
        x.tray(0, 0, 7);
        x.write(0, 6, 77);
        Check.given("copy", x, x.copySung(1, 0), 6);
        Check.due("cut to 8 bits", x.read(0, 0), (byte) 222);
        Check.due("another", x.read(0, 5), 4);
        Check.due("what is behind stays", x.read(0, 6), 77);
        Check.given("copy of a BASS", x, x.copySung(0, 0), 2);
        Check.due("11", x.read(0, 0), 11);
        Check.due("-12", x.read(0, 1), -12);
        Check.due("behind it stays", x.read(0, 2), 1);
        FalseNotes y = Check.valley("singer a purse 0 bass line 11;");
        Check.given("-1", y, y.sung(0, 0), -1);
        y.die(0);
        Check.refused("sung of a DEAD one", y, y.sung(0, 0), 1);
        y.tray(0, 0, 1);
        Check.refused("copy of a DEAD one", y, y.copySung(0, 0), 1);
    }
}
