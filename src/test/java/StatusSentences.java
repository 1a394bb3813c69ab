/** Sentences about STATUS (the terms' fifth part). */
final class StatusSentences {
    /** A call whose answer is NONE or false: false counts as NONE. */
    private interface Call {
        long on(FalseNotes x);
    }

    private StatusSentences() {
    }

    private static long bit(boolean answer) {
        return answer ? 1 : FalseNotes.NONE;
    }

    /** A valley in which nearly every call can be refused: d is DEAD, c has a COLD, b's PURSE is full, 3 MARKS, a tape. */
    static FalseNotes rich() {
        FalseNotes x = Check.valley("singer a purse 50 line 5 7;singer b purse 20 bass;singer c purse 0 cold line 1;"
                + "singer d purse 9 deaf;singer e purse 9;owes b a 10;owes c a 4;owes e a 6;owes a b 3;owes a e 7;heir b c;hums 10;");
        Check.years(x, "sunday;any;any;");
        x.mark();
        x.sunday();
        x.live(5);
        x.mark();
        x.die(3);
        DebtSentences.enrich(x, 1, 9999);
        x.mark();
        x.bass();
        x.tray(0, 2, 3);
        x.write(0, 0, 15);
        x.write(0, 2, -1);
        x.tray(1, 3, 2);
        x.write(1, 0, 1L << 40);
        Check.feed(x, "hums 7;");
        return x;
    }

    private static void add(StringBuilder text, String what, long answer) {
        text.append(what).append('=').append(answer).append(' ');
    }

    /** All that is told of a CHOIR and its YEARS. */
    static String valley(FalseNotes x) {
        StringBuilder text = new StringBuilder();
        for (int what = 0; what < 10; what++) {
            add(text, "told " + what, x.told(what));
        }
        int many = x.told(0);
        for (int s = 0; s < many; s++) {
            for (int what = 0; what < 7; what++) {
                add(text, "singer " + s + " " + what, x.singer(s, what));
            }
            for (int note = 0; note < x.singer(s, 1); note++) {
                add(text, "line " + s + " " + note, x.line(s, note));
                add(text, "held " + s + " " + note, x.held(s, note, 0));
                add(text, "debt " + s + " " + note, x.held(s, note, 1));
            }
        }
        for (int k = 0; k < x.told(4); k++) {
            for (int what = 0; what < 3; what++) {
                add(text, "waiting " + k + " " + what, x.waiting(k, what));
            }
        }
        add(text, "mean", bit(x.mean(1, 20)));
        add(text, "top", x.top());
        add(text, "bottom", x.bottom());
        return text.toString();
    }

    /** All that an object tells, with its TRAYS, tape and MARKS; it is not the same behind this. */
    static String all(FalseNotes x) {
        StringBuilder text = new StringBuilder();
        add(text, "top", x.top());
        add(text, "bottom", x.bottom());
        return text.append(allButFraction(x)).toString();
    }

    static String allButFraction(FalseNotes x) {
        StringBuilder text = new StringBuilder();
        add(text, "fault", x.fault(0));
        add(text, "place", x.fault(1));
        for (int what = 0; what < 5; what++) {
            add(text, "lived " + what, x.lived(what));
        }
        for (int tray = 0; tray < 4; tray++) {
            for (int place = 0; place < 4; place++) {
                add(text, "read " + tray + " " + place, x.read(tray, place));
                add(text, "why", x.status());
            }
        }
        text.append(valley(x));
        add(text, "mark", x.mark());
        add(text, "undo", x.undo());
        for (int what = 0; what < 10; what++) {
            add(text, "told " + what, x.told(what));
        }
        add(text, "choir", x.choir(7));
        add(text, "hums", x.told(1));
        return text.toString();
    }

    /** The call is refused, with that STATUS, and all is as without it. */
    private static void nothingElse(String what, Call call, int why) {
        FalseNotes x = rich();
        Check.refused(what, x, call.on(x), why);
        Check.due(what + " changes nothing else", all(x), all(rich()));
    }

    @Says(at = "Terms 5", words = "STATUS of a call is the first of these that holds:")
    static void theFirstThatHolds() {
        FalseNotes x = rich();
        x.tray(2, 3, 1);
        x.write(2, 0, 9999);
        Check.refused("1 ahead of 2", x, x.heard(9, 3), 1);
        Check.refused("1 ahead of 3", x, x.write(9, 99, 0), 1);
        Check.refused("2 ahead of 3", x, x.read(3, 99), 2);
        Check.refused("3 ahead of 5", x, x.heard(0, 2), 3);
        Check.refused("3 ahead of 5 and 6", x, x.forged(4, 1), 3);
        Check.refused("1 ahead of 5", x, x.forged(9, 1), 1);
        Check.refused("1 ahead of 6: held", x, x.held(1, 2, 2), 1);
        Check.refused("1 ahead of 6: singer", x, x.singer(9, 4), 1);
        Check.refused("1 ahead of 6: waiting", x, x.waiting(99, 3), 1);
        Check.refused("1 ahead of 6: whose", x, x.whose(0, 0), 1);
        Check.refused("1 ahead of 7: lend", x, x.lend(2, 1, 100), 1);
        Check.refused("1 ahead of 7: pay", x, x.pay(2, 2, 1), 1);
        Check.refused("1 ahead of 7: chord", x, x.chord(2, 3), 1);
        Check.refused("1 ahead of 7: earn", x, x.earn(1, 1000), 1);
        x.tray(2, 3, 3);
        x.write(2, 1, 2001);
        Check.refused("5 ahead of 6: forged", x, x.forged(4, 2), 5);
        Check.refused("5 ahead of 6: transposed", x, x.transposed(4, 2), 5);
    }

    @Says(at = "Terms 5", words = "1 a number that can't be; no such TRAY, SINGER, NOTE.")
    static void status1() {
        nothingElse("tray 4", x -> bit(x.tray(4, 0, 0)), 1);
        nothingElse("tray of sort 4", x -> bit(x.tray(0, 4, 1)), 1);
        nothingElse("tray of 61", x -> bit(x.tray(0, 0, 61)), 1);
        nothingElse("write", x -> bit(x.write(-1, 0, 5)), 1);
        nothingElse("read", x -> x.read(4, 0), 1);
        nothingElse("pour", x -> bit(x.pour(0, -1, 0, 0, 1)), 1);
        nothingElse("choir", x -> x.choir(21), 1);
        nothingElse("choir below 0", x -> x.choir(-1), 1);
        nothingElse("years", x -> x.years(21), 1);
        nothingElse("told", x -> x.told(10), 1);
        nothingElse("singer", x -> x.singer(5, 0), 1);
        nothingElse("line", x -> x.line(0, 2), 1);
        nothingElse("held", x -> x.held(0, 2, 0), 1);
        nothingElse("owed", x -> x.owed(1, 1), 1);
        nothingElse("waiting", x -> x.waiting(0, 3), 1);
        nothingElse("sung", x -> x.sung(3, 0), 1);
        nothingElse("copySung", x -> x.copySung(3, 0), 1);
    }

    @Says(at = "Terms 5", words = "1 a number that can't be;")
    static void status1OfDeeds() {
        nothingElse("lend", x -> x.lend(0, 0, 1), 1);
        nothingElse("lend 100", x -> x.lend(0, 4, 100), 1);
        nothingElse("pay", x -> x.pay(0, 1, 1000), 1);
        nothingElse("chord", x -> x.chord(0, 3), 1);
        nothingElse("cold", x -> x.cold(3), 1);
        nothingElse("well", x -> x.well(5), 1);
        nothingElse("die", x -> x.die(3), 1);
        nothingElse("earn", x -> x.earn(0, 0), 1);
        nothingElse("name", x -> bit(x.name(0, 3)), 1);
        nothingElse("name itself", x -> bit(x.name(1, 1)), 1);
        nothingElse("hum", x -> bit(x.hum(51)), 1);
        nothingElse("live", x -> x.live(10000), 1);
        nothingElse("lived", x -> x.lived(5), 1);
        nothingElse("mean", x -> bit(x.mean(0, 21)), 1);
    }

    @Says(at = "Terms 5", words = "no such TRAY, SINGER, NOTE.")
    static void status1OfQuestions() {
        nothingElse("balance", x -> x.balance(3), 1);
        nothingElse("roundAt", x -> x.roundAt(-1), 1);
        nothingElse("behind", x -> x.behind(5), 1);
        nothingElse("free", x -> x.free(3), 1);
        nothingElse("queue", x -> x.queue(3), 1);
        nothingElse("falsest", x -> x.falsest(3), 1);
        nothingElse("heard", x -> x.heard(0, 4), 1);
        nothingElse("transposed", x -> x.transposed(3, 0), 1);
        nothingElse("forged", x -> x.forged(3, 0), 1);
        nothingElse("whose", x -> x.whose(0, 1000), 1);
        nothingElse("grows", x -> x.grows(1000, 0), 1);
        nothingElse("before", x -> x.before(0, 1000), 1);
        nothingElse("when", x -> x.when(0, 1000), 1);
        nothingElse("owedIn", x -> x.owedIn(1000), 1);
    }

    @Says(at = "Terms 5", words = "2 the TRAY is MISSING.")
    static void status2() {
        nothingElse("write", x -> bit(x.write(2, 0, 5)), 2);
        nothingElse("read", x -> x.read(2, 0), 2);
        nothingElse("pour from", x -> bit(x.pour(2, 0, 0, 0, 0)), 2);
        nothingElse("pour to", x -> bit(x.pour(0, 0, 2, 0, 0)), 2);
        nothingElse("copySung", x -> x.copySung(0, 3), 2);
        nothingElse("heard", x -> x.heard(0, 3), 2);
        nothingElse("transposed", x -> x.transposed(0, 3), 2);
        nothingElse("forged", x -> x.forged(0, 3), 2);
    }

    @Says(at = "Terms 5", words = "3 a place that the TRAY has not, or too few numbers.")
    static void status3() {
        nothingElse("write", x -> bit(x.write(0, 3, 5)), 3);
        nothingElse("read", x -> x.read(0, 3), 3);
        nothingElse("pour", x -> bit(x.pour(0, 0, 0, 1, 3)), 3);
        nothingElse("copySung", x -> x.copySung(4, 1), 3);
        nothingElse("heard", x -> x.heard(4, 1), 3);
        nothingElse("transposed", x -> x.transposed(4, 1), 3);
        nothingElse("forged", x -> x.forged(4, 1), 3);
    }

    @Says(at = "Terms 5", words = "4 one too many.")
    static void status4() {
        nothingElse("mark", x -> x.mark(), 4);
        FalseNotes x = Check.valley("singer a purse 0;singer b purse 0;owes a b 5;hums 50;");
        Check.years(x, "loop 99;sunday;sunday;sunday;end;");
        x.hum(0);
        for (int i = 0; i < 34; i++) {
            x.live(0);
        }
        x.hum(50);
        Check.refused("sunday", x, x.sunday(), 4);
        Check.due("nothing grew", x.owed(0, 1), 5);
    }

    @Says(at = "Terms 5", words = "5 a number in a TRAY that can't be.")
    static void status5() {
        nothingElse("heard", x -> x.heard(0, 1), 5);
        nothingElse("transposed", x -> x.transposed(0, 1), 5);
        nothingElse("forged", x -> x.forged(0, 1), 5);
    }

    @Says(at = "Terms 5", words = "6 there is none such.")
    static void status6() {
        nothingElse("singer", x -> x.singer(0, 4), 6);
        nothingElse("held", x -> x.held(1, 2, 0), 6);
        nothingElse("waiting", x -> x.waiting(8, 0), 6);
        nothingElse("round", x -> x.round(), 6);
        nothingElse("roundAt", x -> x.roundAt(0), 6);
        nothingElse("falsest", x -> x.falsest(2), 6);
        nothingElse("transposed", x -> x.transposed(4, 0), 6);
        nothingElse("forged", x -> x.forged(4, 0), 6);
        nothingElse("whose", x -> x.whose(0, 999), 6);
        nothingElse("when", x -> x.when(0, 1), 6);
        FalseNotes x = new FalseNotes();
        x.tray(0, 0, 1);
        Check.refused("richest", x, x.richest(), 6);
        Check.refused("deepest", x, x.deepest(), 6);
        Check.refused("bass", x, x.bass(), 6);
        Check.refused("roomiest", x, x.roomiest(), 6);
        Check.refused("live", x, x.live(0), 6);
        Check.refused("lived", x, x.lived(0), 6);
        Check.refused("mean", x, x.mean(0, 1), 6);
        Check.refused("undo", x, x.undo(), 6);
        FalseNotes y = new FalseNotes();
        y.tray(0, 0, 1);
        Check.due("nothing else changed", all(x), all(y));
    }

    @Says(at = "Terms 5", words = "7 it can't be.")
    static void status7() {
        nothingElse("lend with fewer coins", x -> x.lend(0, 4, 99), 7);
        nothingElse("lend to a full PURSE", x -> x.lend(0, 1, 1), 7);
        nothingElse("lend to a COLD", x -> x.lend(0, 2, 1), 7);
        nothingElse("pay with fewer coins", x -> x.pay(2, 0, 1), 7);
        nothingElse("pay what WAITS", x -> x.pay(4, 0, 1), 7);
        nothingElse("pay too much", x -> x.pay(0, 4, 999), 7);
        nothingElse("pay to a full PURSE", x -> x.pay(0, 1, 1), 7);
        nothingElse("chord of 0", x -> x.chord(1, 2), 7);
        nothingElse("chord with what WAITS", x -> x.chord(0, 4), 7);
        nothingElse("cold", x -> x.cold(2), 7);
        nothingElse("well", x -> x.well(0), 7);
        nothingElse("earn", x -> x.earn(1, 1), 7);
        nothingElse("clear", x -> x.clear(), 7);
    }

    @Says(at = "Terms 5", words = "8 TRAYS are of unlike sorts.")
    static void status8() {
        nothingElse("pour", x -> bit(x.pour(0, 0, 1, 0, 1)), 8);
        nothingElse("pour the other way", x -> bit(x.pour(1, 0, 0, 0, 0)), 8);
        for (int from = 0; from < 4; from++) {
            for (int to = 0; to < 4; to++) {
                FalseNotes x = new FalseNotes();
                x.tray(0, from, 1);
                x.tray(1, to, 1);
                x.pour(0, 0, 1, 0, 1);
                Check.due("sorts " + from + " " + to, x.status(), from == to ? 0 : 8);
            }
        }
    }

    @Says(at = "Terms 5", words = "9 a FAULT.")
    static void status9() {
        FalseNotes x = new FalseNotes();
        Check.refused("choir", x, Check.choir(x, "hums 51;"), 9);
        Check.refused("years", x, Check.years(x, "loop 0;"), 9);
    }

    @Says(at = "Terms 5", words = "0 else.")
    static void status0() {
        FalseNotes x = new FalseNotes();
        x.undo();
        Check.given("an answer of 0", x, x.ask(), 0);
        x.undo();
        Check.given("true", x, x.hum(0));
        x.undo();
        Check.given("a CHOIR", x, x.choir(0), 0);
    }

    @Says(at = "Terms 5", words = "With another STATUS than 0 a call gives NONE, or false, and changes nothing else")
    static void refusedCallsOneBehindTheOther() {
        FalseNotes x = rich();
        for (int i = 0; i < 3; i++) {
            x.lend(0, 1, 1);
            x.pay(0, 1, 1);
            x.cold(2);
            x.earn(1, 1);
            x.clear();
            x.mark();
            x.write(0, 3, 9);
            x.name(0, 0);
            x.hum(-1);
            x.live(-1);
            x.choir(-1);
            x.years(301);
        }
        Check.due("nothing else changed", all(x), all(rich()));
    }

    @Says(at = "Terms 5", words = "(but choir(), years() with 9 the tape, and what fault() tells).")
    static void aFaultChangesTheTape() {
        String[] faulty = {"hums 7;singer z purse 1 bass;owes", "loop 1;sunday;end;loop 2;"};
        for (int which = 0; which < 2; which++) {
            FalseNotes x = rich();
            FalseNotes y = rich();
            // the tape of both is empty then
            y.choir(y.feed(-1, -1, -1, -1, -1));
            x.years(x.feed(-1, -1, -1, -1, -1));
            Check.feed(x, faulty[which]);
            Check.refused("a FAULT", x, which == 0 ? x.choir(faulty[0].length()) : x.years(faulty[1].length()), 9);
            Check.due("FAULT", x.fault(0), 2);
            Check.due("place", x.fault(1), faulty[which].length());
            Check.due("all else", withoutFault(x), withoutFault(y));
            Check.refused("the tape is empty", x, x.choir(1), 1);
        }
    }

    private static String withoutFault(FalseNotes x) {
        return all(x).replaceAll("(fault|place)=\\S+ ", "");
    }

    @Says(at = "Terms 5", words = "status(), top(), bottom(), feed(), fault() have none.")
    static void someHaveNoStatus() {
        FalseNotes x = new FalseNotes();
        x.undo();
        x.status();
        Check.due("status", x.status(), 6);
        x.top();
        Check.due("top", x.status(), 6);
        x.bottom();
        Check.due("bottom", x.status(), 6);
        x.feed(0, 0, 0, 0, 0);
        Check.due("feed", x.status(), 6);
        for (int i = 0; i < 50; i++) {
            x.feed(0, 0, 0, 0, 0);
        }
        Check.due("feed above 900", x.status(), 6);
        x.fault(0);
        Check.due("fault", x.status(), 6);
        x.fault(2);
        Check.due("fault of others", x.status(), 6);
    }

    @Says(at = "Terms 5", words = "The constants: `NONE = -1`: None.")
    static void noneIsMinusOne() {
        Check.due("NONE", FalseNotes.NONE, -1);
    }
}
