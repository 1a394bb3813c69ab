/** Sentences about a new object, STATUS, FRACTIONS told and TRAYS (promises 1 to 8). */
final class TraySentences {
    private TraySentences() {
    }

    private static void fill(FalseNotes x, int tray, long... cells) {
        for (int i = 0; i < cells.length; i++) {
            x.write(tray, i, cells[i]);
        }
    }

    private static void holds(FalseNotes x, int tray, long... cells) {
        for (int i = 0; i < cells.length; i++) {
            Check.given("place " + i, x, x.read(tray, i), cells[i]);
        }
    }

    @Says(at = "What it is", words = "An object is used for at most 512 calls after it has been made; what later calls answer is free.")
    static void call512IsAnsweredAsTheFirst() {
        FalseNotes x = new FalseNotes();
        for (int i = 1; i <= 511; i++) {
            x.sunday();
        }
        Check.due("SUNDAY by the 512th call", x.told(2), 511);
    }

    @Says(at = "Terms 1", words = "TRAYS 0 to 3")
    static void traysAre0To3() {
        FalseNotes x = new FalseNotes();
        for (int tray = 0; tray <= 3; tray++) {
            Check.given("TRAY " + tray, x, x.tray(tray, 0, 1));
        }
        for (int tray : new int[] {-1, 4, Integer.MIN_VALUE, Integer.MAX_VALUE}) {
            Check.refused("no TRAY " + tray, x, x.tray(tray, 0, 1), 1);
        }
    }

    @Says(at = "Terms 1", words = "are MISSING at first")
    static void traysAreMissingAtFirst() {
        for (int tray = 0; tray <= 3; tray++) {
            FalseNotes x = new FalseNotes();
            Check.refused("read of TRAY " + tray, x, x.read(tray, 0), 2);
            x.tray(tray, 0, 1);
            Check.given("made", x, x.read(tray, 0), 0);
        }
    }

    @Says(at = "Terms 1", words = "or rows of 0 to 60 numbers")
    static void traysHave0To60Numbers() {
        FalseNotes x = new FalseNotes();
        Check.refused("-1 numbers", x, x.tray(0, 0, -1), 1);
        Check.refused("61 numbers", x, x.tray(0, 0, 61), 1);
        Check.refused("far too many", x, x.tray(0, 0, Integer.MAX_VALUE), 1);
        Check.given("0 numbers", x, x.tray(0, 0, 0));
        Check.refused("no first place of 0", x, x.read(0, 0), 3);
        Check.given("60 numbers", x, x.tray(0, 0, 60));
        Check.given("the last place of 60", x, x.write(0, 59, 7));
        Check.given("is there", x, x.read(0, 59), 7);
        Check.refused("none behind it", x, x.read(0, 60), 3);
    }

    @Says(at = "Terms 1", words = "of 8 bits (sort 0), 16 (1), 32 (2) or 64 (3).")
    static void sortsAre0To3() {
        FalseNotes x = new FalseNotes();
        Check.refused("sort -1", x, x.tray(0, -1, 1), 1);
        Check.refused("sort 4", x, x.tray(0, 4, 1), 1);
        long[] greatest = {127, 32767, Integer.MAX_VALUE, Long.MAX_VALUE};
        for (int sort = 0; sort <= 3; sort++) {
            Check.given("sort " + sort, x, x.tray(0, sort, 4));
            long most = greatest[sort];
            long least = -most - 1;
            fill(x, 0, most, least, most + 1, least - 1);
            holds(x, 0, most, least, least, most);
        }
    }

    @Says(at = "Promise 1", words = "A CHOIR of no SINGERS, HUMS 0; SUNDAY 0;")
    static void newObjectHasNoSingers() {
        FalseNotes x = new FalseNotes();
        for (int what = 0; what <= 9; what++) {
            Check.given("told " + what, x, x.told(what), 0);
        }
        Check.refused("no SINGER 0", x, x.singer(0, 0), 1);
        Check.given("without HUMS nothing grows", x, x.grows(998, 999), 998);
    }

    @Says(at = "Promise 1", words = "no YEARS, MARKS;")
    static void newObjectHasNoYearsNoMarks() {
        FalseNotes x = new FalseNotes();
        Check.refused("YEARS", x, x.live(0), 6);
        Check.refused("MARKS", x, x.undo(), 6);
        Check.refused("nothing was lived", x, x.lived(0), 6);
    }

    @Says(at = "Promise 1", words = "TRAYS are MISSING;")
    static void newObjectHasNoTrays() {
        FalseNotes x = new FalseNotes();
        for (int tray = 0; tray <= 3; tray++) {
            Check.refused("write to TRAY " + tray, x, x.write(tray, 0, 1), 2);
        }
    }

    @Says(at = "Promise 1", words = "an empty tape;")
    static void newObjectHasAnEmptyTape() {
        FalseNotes x = new FalseNotes();
        Check.refused("a byte of it", x, x.choir(1), 1);
        Check.given("no byte of it", x, x.choir(0), 0);
        Check.due("twenty first bytes", new FalseNotes().feed(0, 0, 0, 0, 0), 20);
    }

    @Says(at = "Promise 1", words = "the FRACTION 0 by 1; STATUS 0.")
    static void newObjectHasFraction0By1() {
        FalseNotes x = new FalseNotes();
        Check.due("STATUS", x.status(), 0);
        Check.due("top", x.top(), 0);
        Check.due("bottom", x.bottom(), 1);
        Check.due("STATUS still", x.status(), 0);
    }

    @Says(at = "Promise 2", words = "STATUS of the latest call that has one.")
    static void statusIsOfTheLatest() {
        FalseNotes x = new FalseNotes();
        x.told(-1);
        Check.due("refused", x.status(), 1);
        Check.due("asked again", x.status(), 1);
        x.told(0);
        Check.due("given", x.status(), 0);
        x.read(0, 0);
        x.undo();
        Check.due("the latest of two", x.status(), 6);
    }

    @Says(at = "Promise 3", words = "The top of the FRACTION told latest.")
    static void topStaysWithARefusedFraction() {
        FalseNotes x = Check.valley("singer a purse 9 bass;singer b purse 9;owes b a 3;owes a b 2;");
        x.bass();
        Check.due("top", x.top(), 3);
        x.pay(1, 0, 3);
        x.pay(0, 1, 2);
        Check.refused("nothing is owed", x, x.bass(), 6);
        Check.due("top of the one ahead", x.top(), 3);
        Check.refused("no YEARS", x, x.mean(0, 1), 6);
        Check.due("top of the one ahead still", x.top(), 3);
    }

    @Says(at = "Promise 4", words = "Its bottom, above 0.")
    static void bottomIsAbove0() {
        FalseNotes x = Check.valley("singer a purse 9;singer b purse 9 bass;owes b a 3;owes a b 2;");
        x.bass();
        Check.due("bottom", x.bottom(), 5);
        x.pay(0, 1, 2);
        x.bass();
        Check.due("bottom of 0", x.bottom(), 1);
        x.pay(1, 0, 3);
        Check.refused("of nothing", x, x.bass(), 6);
        Check.due("bottom of the one ahead", x.bottom(), 1);
    }

    @Says(at = "Promise 5", words = "A TRAY is a row of so many 0s (1).")
    static void aTrayMadeAgainIsOf0s() {
        FalseNotes x = new FalseNotes();
        x.tray(2, 1, 3);
        fill(x, 2, 5, 6, 7);
        Check.refused("too many", x, x.tray(2, 0, 61), 1);
        holds(x, 2, 5, 6, 7);
        Check.given("made again, shorter", x, x.tray(2, 0, 2));
        holds(x, 2, 0, 0);
        Check.refused("the third is gone", x, x.read(2, 2), 3);
        Check.given("made again, longer", x, x.tray(2, 3, 60));
        for (int i = 0; i < 60; i++) {
            Check.given("place " + i, x, x.read(2, i), 0);
        }
    }

    @Says(at = "Promise 6", words = "A number comes to a place of a TRAY, cut to its sort")
    static void writeCutsToTheSort() {
        FalseNotes x = new FalseNotes();
        long v = 0x8123_4567_89ab_cdefL;
        long[] cut = {(byte) 0xef, (short) 0xcdef, 0x89ab_cdef, v};
        for (int sort = 0; sort <= 3; sort++) {
            x.tray(sort, sort, 3);
            Check.given("write", x, x.write(sort, 1, v));
            holds(x, sort, 0, cut[sort], 0);
        }
    }

    @Says(at = "Promise 6", words = "(1, 2, 3)")
    static void writeRefuses() {
        FalseNotes x = new FalseNotes();
        Check.refused("TRAY -1", x, x.write(-1, 0, 1), 1);
        Check.refused("TRAY 4, no place either", x, x.write(4, -1, 1), 1);
        Check.refused("MISSING, no place either", x, x.write(3, 60, 1), 2);
        x.tray(3, 0, 2);
        Check.refused("place -1", x, x.write(3, -1, 1), 3);
        Check.refused("place 2 of 2", x, x.write(3, 2, 1), 3);
        Check.refused("a far place", x, x.write(3, Integer.MAX_VALUE, 1), 3);
        holds(x, 3, 0, 0);
    }

    @Says(at = "Promise 7", words = "The number in a place of a TRAY; STATUS tells NONE from -1")
    static void readOfMinusOne() {
        FalseNotes x = new FalseNotes();
        for (int sort = 0; sort <= 3; sort++) {
            x.tray(0, sort, 1);
            x.write(0, 0, -1);
            Check.given("-1 of sort " + sort, x, x.read(0, 0), -1);
            Check.refused("NONE", x, x.read(0, 1), 3);
        }
    }

    @Says(at = "Promise 7", words = "(1, 2, 3)")
    static void readRefuses() {
        FalseNotes x = new FalseNotes();
        Check.refused("TRAY -1", x, x.read(-1, 0), 1);
        Check.refused("TRAY 4", x, x.read(4, 0), 1);
        Check.refused("MISSING", x, x.read(0, -1), 2);
        x.tray(0, 0, 1);
        Check.refused("place -1", x, x.read(0, -1), 3);
        Check.refused("place 1 of 1", x, x.read(0, 1), 3);
        Check.refused("the lowest int", x, x.read(0, Integer.MIN_VALUE), 3);
    }

    @Says(at = "Promise 8", words = "So many numbers of a TRAY, from a place on, come to another one's")
    static void pourToAnother() {
        FalseNotes x = new FalseNotes();
        x.tray(0, 2, 4);
        x.tray(3, 2, 3);
        fill(x, 0, 1, 2, 3, 4);
        fill(x, 3, 7, 8, 9);
        Check.given("the last two to the last two", x, x.pour(0, 2, 3, 1, 2));
        holds(x, 3, 7, 3, 4);
        holds(x, 0, 1, 2, 3, 4);
        Check.given("none", x, x.pour(0, 0, 3, 0, 0));
        holds(x, 3, 7, 3, 4);
        Check.given("all of the shorter", x, x.pour(3, 0, 0, 0, 3));
        holds(x, 0, 7, 3, 4, 4);
    }

    @Says(at = "Promise 8", words = "(or its own) place on, as they were")
    static void pourOverItself() {
        FalseNotes x = new FalseNotes();
        x.tray(1, 0, 5);
        fill(x, 1, 1, 2, 3, 4, 5);
        Check.given("onwards, over itself", x, x.pour(1, 0, 1, 1, 4));
        holds(x, 1, 1, 1, 2, 3, 4);
        fill(x, 1, 1, 2, 3, 4, 5);
        Check.given("back, over itself", x, x.pour(1, 1, 1, 0, 4));
        holds(x, 1, 2, 3, 4, 5, 5);
        Check.given("to where it is", x, x.pour(1, 0, 1, 0, 5));
        holds(x, 1, 2, 3, 4, 5, 5);
    }

    @Says(at = "Promise 8", words = "(1: below 0, too;")
    static void pourBelow0() {
        FalseNotes x = new FalseNotes();
        x.tray(0, 0, 5);
        x.tray(1, 0, 5);
        Check.refused("TRAY -1", x, x.pour(-1, 0, 1, 0, 1), 1);
        Check.refused("TRAY 4", x, x.pour(4, 0, 1, 0, 1), 1);
        Check.refused("to TRAY -1", x, x.pour(0, 0, -1, 0, 1), 1);
        Check.refused("to TRAY 4", x, x.pour(0, 0, 4, 0, 1), 1);
        Check.refused("from place -1", x, x.pour(0, -1, 1, 0, 1), 1);
        Check.refused("to place -1", x, x.pour(0, 0, 1, -1, 1), 1);
        Check.refused("-1 numbers", x, x.pour(0, 1, 1, 1, -1), 1);
    }

    @Says(at = "Promise 8", words = "2; 8; 3; asked in this order).")
    static void pourAsksInOrder() {
        FalseNotes x = new FalseNotes();
        x.tray(0, 1, 3);
        Check.refused("1 ahead of 2", x, x.pour(2, 0, 3, 0, -1), 1);
        Check.refused("from a MISSING one, too few", x, x.pour(1, 9, 0, 9, 9), 2);
        Check.refused("to a MISSING one, too few", x, x.pour(0, 9, 1, 9, 9), 2);
        x.tray(1, 2, 3);
        Check.refused("8 ahead of 3", x, x.pour(0, 9, 1, 9, 9), 8);
        Check.refused("8 of 0 numbers, too", x, x.pour(0, 0, 1, 0, 0), 8);
        x.tray(1, 1, 2);
        Check.refused("too few in the first", x, x.pour(0, 2, 1, 0, 2), 3);
        Check.refused("too few in the other", x, x.pour(0, 0, 1, 1, 2), 3);
        Check.refused("too few in the other, from its first place on", x, x.pour(0, 0, 1, 0, 3), 3);
        Check.refused("sums above all ints", x, x.pour(0, Integer.MAX_VALUE, 1, 0, Integer.MAX_VALUE), 3);
        Check.refused("sums above all ints in the other", x, x.pour(0, 0, 1, Integer.MAX_VALUE, 1), 3);
        Check.given("just enough", x, x.pour(0, 1, 1, 0, 2));
    }
}
