/** Sentences about YEARS, draws, MARKS and FRACTIONS (the terms' fourth part, promises 59 to 63). */
final class YearsSentences {
    private static final String THREE = "singer a purse 50 line 1 2;singer b purse 20;singer c purse 5;";

    private YearsSentences() {
    }

    private static FalseNotes three() {
        return Check.valley(THREE);
    }

    private static void taken(String text, int steps) {
        FalseNotes x = three();
        Check.given("years: " + text, x, Check.years(x, text), steps);
        Check.due("no FAULT of " + text, x.fault(0), 0);
    }

    private static void fault(String text, int kind, int place) {
        FalseNotes x = three();
        Check.yearsFault(x, text, kind, place);
        Check.refused("no YEARS", x, x.live(0), 6);
    }

    private static FalseNotes lived(String text, int seed) {
        FalseNotes x = three();
        Check.years(x, text);
        x.live(seed);
        return x;
    }

    private static void livedIs(FalseNotes x, int... want) {
        for (int what = 0; what < want.length; what++) {
            Check.given("lived " + what, x, x.lived(what), want[what]);
        }
    }

    @Says(at = "Terms 4", words = "YEARS are a TEXT of at most 300 bytes, of such TOKENS (none at first).")
    static void yearsOf300Bytes() {
        FalseNotes x = three();
        Check.refused("none at first", x, x.live(0), 6);
        Check.feed(x, " ".repeat(293) + "sunday;sunday;");
        Check.refused("301", x, x.years(301), 1);
        Check.given("300", x, x.years(300), 1);
        taken("lend\na to\n\nb 0012;loop2;end;", 2);
        fault("loop 00002;end;", 1, 5);
        fault("any\t;", 1, 3);
    }

    @Says(at = "Terms 4", words = "YEARS: {STEP}.")
    static void yearsOfNoSteps() {
        taken("", 0);
        taken(" \n", 0);
        FalseNotes x = three();
        x.years(0);
        Check.given("are lived", x, x.live(0), 0);
        livedIs(x, 0, 0, 0, 0, 0);
    }

    @Says(at = "Terms 4", words = "STEP: lend NAME to NAME NUMBER ; or pay NAME to NAME NUMBER ; or sunday ; or cold NAME ; or die NAME ; or chord NAME NAME ; or any ;")
    static void theSteps() {
        taken("lend a to b 1;pay b to a 1;sunday;cold a;die a;chord a b;any;", 7);
        fault("lend a b 1;", 2, 7);
        fault("lend a to b;", 2, 11);
        fault("lend to b 1;", 2, 5);
        fault("lend a to b 1", 2, 13);
        fault("pay b a 1;", 2, 6);
        fault("pay b to a to", 2, 11);
        fault("sunday 1;", 2, 7);
        fault("cold;", 2, 4);
        fault("die a b;", 2, 6);
        fault("chord a;", 2, 7);
        fault("chord a to b;", 2, 8);
        fault("any a;", 2, 4);
        fault("well a;", 2, 0);
        fault("owes a b 1;", 2, 0);
    }

    @Says(at = "Terms 4", words = "or when TEST ; {STEP} end ; or loop NUMBER ; {STEP} end ; or stop ;")
    static void theStepsWithin() {
        taken("when still a;end;loop 1;end;stop;", 3);
        taken("when still a;any;loop 2;stop;sunday;end;end;", 5);
        fault("when;", 2, 4);
        fault("when still a end;", 2, 13);
        fault("loop;", 2, 4);
        fault("loop a;", 2, 5);
        fault("loop 2 end;", 2, 7);
        fault("loop 2;end 2;", 2, 11);
        fault("stop any;", 2, 5);
    }

    @Says(at = "Terms 4", words = "TEST: debt NAME to NAME COMPARES NUMBER, or purse NAME COMPARES NUMBER, or still NAME.")
    static void theTests() {
        taken("when debt a to b=1;end;when purse a>1;end;when still a;end;", 3);
        fault("when debt a b=1;end;", 2, 12);
        fault("when debt a to b 1;end;", 2, 17);
        fault("when debt a to b=;end;", 2, 17);
        fault("when purse a to b=1;end;", 2, 13);
        fault("when purse a=b;end;", 2, 13);
        fault("when still a=1;end;", 2, 12);
        fault("when a;end;", 2, 5);
        fault("when lend a to b 1;end;", 2, 5);
        fault("debt a to b=1;", 2, 0);
    }

    @Says(at = "Terms 4", words = "COMPARES: < or > or =")
    static void theCompares() {
        for (int coins = 49; coins <= 51; coins++) {
            FalseNotes x = lived("when purse a<" + coins + ";sunday;end;", 0);
            Check.due("50 < " + coins, x.lived(3), 50 < coins ? 1 : 0);
            x = lived("when purse a>" + coins + ";sunday;end;", 0);
            Check.due("50 > " + coins, x.lived(3), 50 > coins ? 1 : 0);
            x = lived("when purse a=" + coins + ";sunday;end;", 0);
            Check.due("50 = " + coins, x.lived(3), 50 == coins ? 1 : 0);
        }
        fault("when purse a;end;", 2, 12);
        fault("when purse a==1;end;", 2, 13);
        fault("when purse a<=1;end;", 2, 13);
        fault("when purse a&lt;1;end;", 1, 12);
    }

    @Says(at = "Terms 4", words = "FAULTS: 1, 2 as above (an end without a beginning; the text's end ahead of an end: 2).")
    static void fault2Ends() {
        fault("end;", 2, 0);
        fault("any;end;", 2, 4);
        fault("loop 1;end;end;", 2, 11);
        fault("loop 1;", 2, 7);
        fault("loop 1;any;  ", 2, 13);
        fault("loop 1;when still a;end;", 2, 24);
        fault("loop 1;end", 2, 10);
        fault("#", 1, 0);
        fault("any;12345", 1, 4);
        fault("12", 2, 0);
        fault("lend abcdefghi to b 1;", 2, 5);
        fault("lend a to stop 1;", 2, 10);
        fault("singer d purse 1;", 2, 0);
    }

    @Says(at = "Terms 4", words = "3 a NAME that is no such one.")
    static void fault3Names() {
        fault("lend d to a 1;", 3, 5);
        fault("lend a to d 1;", 3, 10);
        fault("pay d to a 1;", 3, 4);
        fault("pay a to d 1;", 3, 9);
        fault("cold d;", 3, 5);
        fault("die d;", 3, 4);
        fault("chord d a;", 3, 6);
        fault("chord a d;", 3, 8);
        fault("when debt d to a=1;", 3, 10);
        fault("when debt a to d=1;", 3, 15);
        fault("when purse d=1;", 3, 11);
        fault("when still aa;", 3, 11);
        taken("lend a to a 1;chord b b;when debt c to c=0;end;", 3);
    }

    @Says(at = "Terms 4", words = "4 a NUMBER that can't be.")
    static void fault4Numbers() {
        fault("lend a to b 0;", 4, 12);
        fault("lend a to b 100;", 4, 12);
        fault("pay a to b 0;", 4, 11);
        fault("pay a to b 1000;", 4, 11);
        fault("when debt a to b<1000;", 4, 17);
        fault("loop 0;end;", 4, 5);
        fault("loop 100;end;", 4, 5);
        taken("lend a to b 1;lend a to b 99;pay a to b 1;pay a to b 999;loop 1;end;loop 99;end;", 6);
        taken("when debt a to b<0;end;when debt a to b<999;end;when purse a<0;end;when purse a<9999;end;", 4);
    }

    @Says(at = "Terms 4", words = "6 a 31st STEP (at its WORD; end is none).")
    static void fault6A31stStep() {
        String thirty = "any;".repeat(30);
        taken(thirty, 30);
        fault(thirty + "any;", 6, 120);
        fault(thirty + " loop 0;", 6, 121);
        fault(thirty + "end;", 2, 120);
        fault(thirty + "end", 2, 120);
        taken("loop 1;when still a;" + "any;".repeat(28) + "end;end;", 30);
        fault("loop 1;when still a;" + "any;".repeat(28) + "end;end;stop;", 6, 140);
        taken("loop 1;end;".repeat(27), 27);
    }

    @Says(at = "Terms 4", words = "7 a when, loop within three others (at its WORD).")
    static void fault7WithinThreeOthers() {
        taken("loop 1;when still a;loop 2;any;end;end;end;", 4);
        taken("loop 1;when still a;loop 2;end;loop 2;end;end;when still b;end;end;loop 1;end;", 6);
        fault("loop 1;when still a;loop 2;when still b;", 7, 27);
        fault("loop 1;when still a;loop 2;loop", 7, 27);
        fault("loop 1;when still a;loop 2;any;end;loop 2; when 5", 7, 43);
        fault("any;".repeat(27) + "loop 1;loop 1;loop 1;loop 1;", 6, 108 + 21);
    }

    @Says(at = "Terms 4", words = "lend: the first lends the second 1 to 99; pay: the first pays the second 1 to 999;")
    static void lendAndPayInYears() {
        FalseNotes x = lived("lend a to b 1;lend a to b 49;lend a to b 1;pay b to a 50;", 0);
        Check.due("a third lend is MISSED", x.lived(0), 1);
        livedIs(x, 1, 50, 50, 0, 0);
        x = Check.valley("singer a purse 999;singer b purse 999;" + "owes b a 99;".repeat(10) + "owes b a 9;");
        Check.years(x, "pay b to a 999;lend b to a 1;lend a to b 99;");
        x.live(0);
        livedIs(x, 1, 99, 999, 0, 0);
    }

    @Says(at = "Terms 4", words = "any: who lends by a draw by how many SINGERS there are (not DEAD, by numbers), to whom by another such draw, "
            + "by a third draw by 20 and 1 how many")
    static void anyByThreeDraws() {
        FalseNotes x = Check.valley("singer a purse 99;singer b purse 99;singer c purse 99;singer d purse 99;");
        Check.years(x, "any;");
        x.mark();
        Check.given("one STEP", x, x.live(0), 1);
        // s is 11,173, then 44,940, then 31,081: 1,396 by 4 is 0, 5,617 by 4 is 1, 3,885 by 20 is 5
        Check.given("a lends b 6", x, x.owed(1, 0), 6);
        x.undo();
        x.die(1);
        x.live(0);
        // by 3: 1,396 is 1, 5,617 is 1, which is c and c
        livedIs(x, 1, 0);
        // s is 23,057, then 28,400, then 42,741: 2,882 by 3 is 2, 3,550 by 3 is 1, 5,342 by 20 is 2
        x.live(4);
        livedIs(x, 0, 3);
        Check.given("d lends c 3", x, x.owed(2, 3), 3);
    }

    @Says(at = "Terms 4", words = "(MISSED, without draws, if there are none).")
    static void anyOfNone() {
        FalseNotes x = three();
        Check.years(x, "die a;die b;die c;any;any;");
        Check.given("five", x, x.live(0), 5);
        livedIs(x, 2, 0);
        x = new FalseNotes();
        Check.years(x, "any;");
        Check.given("one", x, x.live(0), 1);
        livedIs(x, 1, 0);
        x = Check.valley("singer a purse 9;");
        Check.years(x, "any;");
        x.live(0);
        livedIs(x, 1, 0);
    }

    @Says(at = "Terms 4", words = "What can't be is MISSED")
    static void whatCantBeIsMissed() {
        FalseNotes x = lived("lend c to a 6;lend c to a 5;pay a to c 6;pay b to c 1;", 0);
        livedIs(x, 3, 5, 0);
        Check.due("nothing else changed", x.singer(0, 0), 55);
    }

    @Says(at = "Terms 4", words = "(also a COLD of who has one, DIES of DEAD ones, a CHORD of 0, a SUNDAY behind 9,999, two that are one).")
    static void alsoMissed() {
        livedIs(lived("cold a;cold a;", 0), 1);
        livedIs(lived("die a;die a;", 0), 1);
        livedIs(lived("chord a b;", 0), 1);
        livedIs(lived("lend a to b 1;lend b to a 1;chord a b;chord a b;", 0), 1, 2);
        livedIs(lived("lend a to a 1;", 0), 1, 0);
        livedIs(lived("pay a to a 1;", 0), 1, 0);
        livedIs(lived("chord a a;", 0), 1);
        FalseNotes x = three();
        Check.years(x, "loop 99;sunday;sunday;sunday;end;");
        for (int i = 0; i < 34; i++) {
            x.live(0);
        }
        livedIs(x, 99, 0, 0, 198, 0);
        Check.due("9,999", x.told(2), 9999);
    }

    @Says(at = "Terms 4", words = "when debt: OWED (0 to 999); purse: 0 to 9,999;")
    static void whenDebtAndPurse() {
        FalseNotes x = Check.valley("singer a purse 0 line 1;singer b purse 0;singer c purse 0;owes b a 5;owes c a 7;");
        Check.years(x, "when debt b to a=5;sunday;end;when debt c to a=7;sunday;end;when debt a to b=0;sunday;end;"
                + "when debt a to b>0;sunday;end;when debt c to a<7;sunday;end;");
        x.live(0);
        Check.due("at a NOTE, WAITING, none", x.lived(3), 3);
        Check.years(x, "when debt a to a=0;sunday;end;when debt a to a>0;stop;end;when debt a to a<0;stop;end;sunday;");
        x.live(0);
        Check.due("one and itself: 0", x.lived(3), 2);
        x = three();
        DebtSentences.enrich(x, 0, 9999);
        Check.years(x, "when purse a=9999;sunday;end;when purse a<9999;sunday;end;when purse a>9998;sunday;end;");
        x.live(0);
        Check.due("9,999", x.lived(3), 2);
    }

    @Says(at = "Terms 4", words = "still: it owes nothing, is OWED nothing.")
    static void whenStill() {
        FalseNotes x = Check.valley("singer a purse 0 line 1;singer b purse 0;singer c purse 0;singer d purse 0;owes b a 5;owes c a 7;");
        String[] names = {"a", "b", "c", "d"};
        for (int s = 0; s < 4; s++) {
            Check.years(x, "when still " + names[s] + ";sunday;end;");
            x.live(0);
            Check.due("still " + names[s], x.lived(3), s == 3 ? 1 : 0);
        }
    }

    @Says(at = "Terms 4", words = "loop n (1 to 99): as often.")
    static void loopAsOften() {
        Check.due("1", lived("loop 1;sunday;end;", 0).lived(3), 1);
        Check.due("2", lived("loop 2;sunday;end;", 0).lived(3), 2);
        Check.due("99", lived("loop 99;sunday;end;", 0).lived(3), 99);
        Check.due("3 times 4 times 5", lived("loop 3;loop 4;loop 5;sunday;end;end;end;", 0).lived(3), 60);
    }

    @Says(at = "Terms 4", words = "At most 300 STEPS (when, loop count as one each time they are come to from ahead; end does not).")
    static void atMost300Steps() {
        FalseNotes x = three();
        Check.years(x, "loop 99;sunday;sunday;sunday;end;sunday;sunday;");
        Check.given("1, 297 and 2", x, x.live(0), 300);
        livedIs(x, 0, 0, 0, 299, 0);
        Check.years(x, "loop 99;sunday;sunday;sunday;end;sunday;sunday;sunday;");
        Check.given("one is left", x, x.live(0), 300);
        livedIs(x, 0, 0, 0, 299, 1);
        Check.years(x, "loop 3;sunday;loop 2;sunday;end;end;");
        Check.given("1, and 3 times 1, 1, 2", x, x.live(0), 13);
        Check.years(x, "loop 3;when purse a=1;sunday;end;when purse a=50;sunday;end;end;");
        Check.given("1, and 3 times 1, 1, 1", x, x.live(0), 10);
        Check.years(x, "loop 3;end;sunday;");
        Check.given("ends do not count", x, x.live(0), 2);
        Check.years(x, "loop 99;loop 99;loop 99;end;end;end;");
        Check.given("loops within loops", x, x.live(0), 300);
        livedIs(x, 0, 0, 0, 0, 1);
    }

    @Says(at = "Terms 4", words = "LIVED by a seed (0 to 9,999): all is as it is then.")
    static void livedBySeed0To9999() {
        FalseNotes x = three();
        Check.years(x, "lend a to b 7;sunday;cold c;die c;");
        Check.refused("-1", x, x.live(-1), 1);
        Check.refused("10,000", x, x.live(10000), 1);
        Check.due("nothing was lent", x.told(5), 0);
        Check.given("0", x, x.live(0), 4);
        Check.due("lent", x.owed(1, 0), 7);
        Check.due("SUNDAY", x.told(2), 1);
        Check.due("DEAD", x.told(9), 4);
        Check.given("9,999", x, x.live(9999), 4);
        Check.due("lent again", x.owed(1, 0), 14);
    }

    @Says(at = "Terms 4", words = "Draws: s, at first the seed, becomes what is left of s times 2,971 and 11,173 by 65,536;")
    static void drawsGoOn() {
        FalseNotes x = Check.valley("singer a purse 999;singer b purse 999;");
        Check.years(x, "loop 99;any;end;");
        for (int seed : new int[] {0, 1, 17, 4096, 9999}) {
            x.mark();
            x.live(seed);
            long s = seed;
            int lent = 0;
            int missed = 0;
            for (int i = 0; i < 99; i++) {
                s = s * 2971 + 11173 & 0xffff;
                long from = s >> 3 & 1;
                s = s * 2971 + 11173 & 0xffff;
                long to = s >> 3 & 1;
                s = s * 2971 + 11173 & 0xffff;
                lent += from == to ? 0 : (int) ((s >> 3) % 20) + 1;
                missed += from == to ? 1 : 0;
            }
            livedIs(x, missed, lent);
            x.undo();
        }
    }

    @Says(at = "Terms 4", words = "the draw by n is the rest of s by 8, rounded down, by n.")
    static void theDrawByN() {
        FalseNotes x = Check.valley(TextSentences.singers(7).replace("purse 0", "purse 99"));
        Check.years(x, "any;");
        x.live(9999);
        // s is 30,394, then 3,139, then 31,030: 3,799 by 7 is 5, 392 by 7 is 0, 3,878 by 20 is 18
        Check.given("f lends a 19", x, x.owed(0, 5), 19);
        Check.due("all", x.told(5), 19);
    }

    @Says(at = "Terms 4", words = "MARKS, at most 3:")
    static void marksAreAtMost3() {
        FalseNotes x = new FalseNotes();
        for (int i = 1; i <= 3; i++) {
            Check.given("a MARK", x, x.mark(), i);
        }
        Check.refused("a fourth", x, x.mark(), 4);
        Check.given("one is gone", x, x.undo(), 2);
        Check.given("a third again", x, x.mark(), 3);
    }

    @Says(at = "Terms 4", words = "the CHOIR with all that became of it, the YEARS are kept as they are;")
    static void marksKeepAll() {
        FalseNotes x = muchHappened();
        Check.given("a MARK", x, x.mark(), 1);
        Check.choir(x, "singer z purse 1;");
        Check.years(x, "die z;");
        x.live(3);
        Check.given("back", x, x.undo(), 0);
        Check.due("as it was", StatusSentences.valley(x), StatusSentences.valley(muchHappened()));
        FalseNotes y = muchHappened();
        y.mark();
        y.die(0);
        y.hum(3);
        y.earn(2, 9);
        y.well(2);
        y.name(2, -1);
        Check.years(y, "when debt d to c<9;loop 5;sunday;end;end;pay d to d 7;lend d to d 7;chord d d;when still c;die a;end;");
        y.undo();
        Check.due("as it was", StatusSentences.valley(y), StatusSentences.valley(muchHappened()));
        Check.given("its NAMES", x, Check.years(x, "cold a;cold d;"), 2);
        Check.yearsFault(x, "cold z;", 3, 5);
        FalseNotes z = three();
        z.mark();
        Check.years(z, "any;");
        z.undo();
        Check.refused("no YEARS, too", z, z.live(0), 6);
    }

    private static FalseNotes muchHappened() {
        FalseNotes x = Check.valley("singer a purse 9 bass line 3;singer b purse 9 deaf;singer c purse 9 line 4;singer d purse 9;"
                + "owes b a 4;owes c a 5;owes d a 8;owes a c 2;owes d c 6;owes a b 6;heir a b;heir c a;hums 10;");
        Check.years(x, "when purse d>3;lend d to a 1;loop 3;pay a to c 1;any;end;end;when debt d to c=6;any;lend a to d 2;end;sunday;");
        x.sunday();
        x.pay(0, 1, 2);
        x.cold(2);
        x.die(1);
        return x;
    }

    @Says(at = "Terms 4", words = "all is taken back to the latest MARK, which is gone then.")
    static void backToTheLatestMark() {
        FalseNotes x = three();
        x.mark();
        x.sunday();
        x.mark();
        x.sunday();
        x.sunday();
        Check.given("to the latest", x, x.undo(), 1);
        Check.due("SUNDAY 1", x.told(2), 1);
        Check.given("to the one ahead", x, x.undo(), 0);
        Check.due("SUNDAY 0", x.told(2), 0);
        Check.refused("gone", x, x.undo(), 6);
        Check.due("SUNDAY 0 still", x.told(2), 0);
    }

    @Says(at = "Terms 4", words = "FRACTIONS are told by top() and bottom() without a common divisor, the bottom above 0; 0 is 0 by 1.")
    static void fractionsWithoutACommonDivisor() {
        int[][] all = {{6, 9, 2, 5}, {5, 5, 1, 2}, {0, 7, 0, 1}, {7, 0, 1, 1}, {99, 1, 99, 100}, {60, 40, 3, 5}, {3, 4, 3, 7}};
        for (int[] one : all) {
            FalseNotes x = Check.valley("singer a purse 0 bass;singer b purse 0;" + (one[0] > 0 ? "owes b a " + one[0] + ";" : "")
                    + (one[1] > 0 ? "owes a b " + one[1] + ";" : ""));
            Check.given("bass", x, x.bass());
            Check.due("top of " + one[0] + " and " + one[1], x.top(), one[2]);
            Check.due("bottom of " + one[0] + " and " + one[1], x.bottom(), one[3]);
        }
    }

    @Says(at = "Promise 59", words = "LIVED: how many STEPS were done")
    static void liveTellsHowMany() {
        FalseNotes x = three();
        Check.years(x, "sunday;stop;sunday;");
        Check.given("a stop is one", x, x.live(0), 2);
        Check.years(x, "lend a to a 1;sunday;");
        Check.given("MISSED ones, too", x, x.live(0), 2);
        Check.years(x, "when purse a=0;sunday;sunday;end;sunday;");
        Check.given("not those gone past", x, x.live(0), 2);
    }

    @Says(at = "Promise 59", words = "(1; 6: no YEARS).")
    static void liveWithoutYears() {
        FalseNotes x = three();
        Check.refused("no YEARS", x, x.live(0), 6);
        Check.refused("1 ahead of 6", x, x.live(-1), 1);
        Check.refused("1 ahead of 6 again", x, x.live(10000), 1);
        Check.years(x, "sunday;");
        Check.given("YEARS", x, x.live(0), 1);
        Check.choir(x, THREE);
        Check.refused("no YEARS any more", x, x.live(0), 6);
    }

    @Says(at = "Promise 60", words = "Of live() latest with STATUS 0,")
    static void livedOfTheLatest() {
        FalseNotes x = three();
        Check.years(x, "sunday;lend a to b 7;");
        x.live(0);
        x.live(-1);
        livedIs(x, 0, 7, 0, 1, 0);
        Check.years(x, "sunday;sunday;");
        livedIs(x, 0, 7, 0, 1, 0);
        x.mean(0, 3);
        livedIs(x, 0, 7, 0, 1, 0);
        x.live(0);
        livedIs(x, 0, 0, 0, 2, 0);
        Check.choir(x, "");
        x.live(0);
        livedIs(x, 0, 0, 0, 2, 0);
    }

    @Says(at = "Promise 60", words = "what 0: MISSED, 1: how much was lent, 2: PAID, 3: SUNDAYS, 4: 1 if a STEP was left to be done, else 0")
    static void livedTells() {
        livedIs(lived("lend a to b 9;lend a to b 2;pay b to a 4;cold b;sunday;sunday;cold b;", 0), 1, 11, 11, 2, 0);
        FalseNotes x = lived("lend a to b 9;pay b to a 4;sunday;", 0);
        x.live(0);
        livedIs(x, 0, 9, 4, 1, 0);
        Check.due("8 were PAID in all", x.told(7), 8);
        livedIs(lived("loop 99;sunday;sunday;sunday;end;sunday;sunday;", 0), 0, 0, 0, 299, 0);
        livedIs(lived("loop 99;sunday;sunday;sunday;end;sunday;sunday;any;", 0), 0, 0, 0, 299, 1);
        livedIs(lived("loop 99;sunday;sunday;sunday;end;sunday;sunday;stop;", 0), 0, 0, 0, 299, 1);
        livedIs(lived("loop 99;sunday;sunday;sunday;end;sunday;loop 9;end;", 0), 0, 0, 0, 298, 0);
        livedIs(lived("loop 99;sunday;sunday;sunday;end;sunday;when purse a=0;any;end;", 0), 0, 0, 0, 298, 0);
        livedIs(lived("loop 99;sunday;sunday;sunday;end;sunday;loop 1;any;end;", 0), 0, 0, 0, 298, 1);
        livedIs(lived("stop;any;", 0), 0, 0, 0, 0, 0);
    }

    @Says(at = "Promise 60", words = "(1; 6: there was none).")
    static void livedOfNone() {
        FalseNotes x = three();
        for (int what = 0; what <= 4; what++) {
            Check.refused("what " + what, x, x.lived(what), 6);
        }
        Check.refused("1 ahead of 6", x, x.lived(5), 1);
        Check.refused("below 0", x, x.lived(-1), 1);
        x.live(0);
        Check.refused("live() without YEARS is none", x, x.lived(0), 6);
        Check.years(x, "any;");
        x.mean(0, 1);
        Check.refused("mean() is none", x, x.lived(0), 6);
        x.live(0);
        Check.given("there was one", x, x.lived(4), 0);
        Check.refused("what 5", x, x.lived(5), 1);
    }

    @Says(at = "Promise 61", words = "The FRACTION is the mean of all that is owed behind the YEARS, by so many seeds (1 to 20) from one on")
    static void meanOf1To20Seeds() {
        FalseNotes x = Check.valley("singer a purse 99;singer b purse 99;singer c purse 99;hums 10;");
        Check.years(x, "any;any;sunday;any;");
        for (int many : new int[] {1, 2, 20}) {
            long sum = 0;
            for (int i = 0; i < many; i++) {
                x.mark();
                x.live(77 + i);
                sum += x.told(5);
                x.undo();
            }
            Check.given("mean of " + many, x, x.mean(77, many));
            Check.due("top by bottom", x.top() * many, sum * x.bottom());
            Check.due("bottom divides " + many, many % x.bottom(), 0);
        }
        Check.refused("0", x, x.mean(77, 0), 1);
        Check.refused("-1", x, x.mean(77, -1), 1);
        Check.refused("21", x, x.mean(77, 21), 1);
    }

    @Says(at = "Promise 61", words = "(1: the last above 9,999, too; 6: no YEARS);")
    static void meanOfTheLastSeeds() {
        FalseNotes x = three();
        Check.refused("no YEARS", x, x.mean(0, 1), 6);
        Check.refused("1 ahead of 6", x, x.mean(9999, 2), 1);
        Check.years(x, "any;");
        Check.given("9,999 alone", x, x.mean(9999, 1));
        Check.refused("10,000", x, x.mean(10000, 1), 1);
        Check.refused("9,999 and 10,000", x, x.mean(9999, 2), 1);
        Check.given("9,980 to 9,999", x, x.mean(9980, 20));
        Check.refused("9,981 to 10,000", x, x.mean(9981, 20), 1);
        Check.refused("-1", x, x.mean(-1, 1), 1);
        Check.refused("-1 on", x, x.mean(-1, 20), 1);
        Check.refused("the highest int", x, x.mean(Integer.MAX_VALUE, 20), 1);
    }

    @Says(at = "Promise 61", words = "all stays as it is.")
    static void meanLeavesAll() {
        FalseNotes x = StatusSentences.rich();
        x.mean(0, 20);
        FalseNotes y = StatusSentences.rich();
        Check.due("as it was but for the FRACTION", StatusSentences.allButFraction(x), StatusSentences.allButFraction(y));
        FalseNotes z = three();
        Check.years(z, "die a;die b;die c;sunday;");
        Check.given("mean", z, z.mean(0, 2));
        Check.due("0", z.top(), 0);
        Check.due("by 1", z.bottom(), 1);
        Check.due("nobody is DEAD", z.told(9), 0);
        Check.due("SUNDAY 0", z.told(2), 0);
    }

    @Says(at = "Promise 62", words = "A MARK more: how many there are (4).")
    static void markAFourth() {
        FalseNotes x = three();
        Check.given("1", x, x.mark(), 1);
        x.sunday();
        Check.given("2", x, x.mark(), 2);
        Check.given("3", x, x.mark(), 3);
        x.sunday();
        Check.refused("a fourth", x, x.mark(), 4);
        x.undo();
        Check.due("to the third", x.told(2), 1);
        x.undo();
        x.undo();
        Check.due("to the first", x.told(2), 0);
    }

    @Says(at = "Promise 63", words = "All is taken back to the latest MARK: how many there are left (6).")
    static void undoWithoutAMark() {
        FalseNotes x = three();
        Check.refused("none at first", x, x.undo(), 6);
        x.mark();
        x.mark();
        Check.choir(x, "singer z purse 1;");
        Check.given("behind another CHOIR", x, x.undo(), 1);
        Check.due("three SINGERS", x.told(0), 3);
        Check.given("the first", x, x.undo(), 0);
        Check.refused("none is left", x, x.undo(), 6);
        Check.due("three SINGERS still", x.told(0), 3);
    }
}
