/** Sentences about the tape and the CHOIR's text with its FAULTS (the terms' first part, promises 9 to 12). */
final class TextSentences {
    private static final String TWO = "singer a purse 1;singer b purse 1;";
    private static final String[] NO_NAMES = {"singer", "purse", "bass", "cold", "deaf", "line", "owes", "heir", "hums", "lend",
        "to", "pay", "sunday", "die", "chord", "any", "when", "debt", "still", "loop", "end", "stop"};

    private TextSentences() {
    }

    /** SINGERS a, b .. with PURSE 0 and a LINE of one NOTE each. */
    static String singers(int many) {
        StringBuilder text = new StringBuilder();
        for (int s = 0; s < many; s++) {
            text.append("singer ").append((char) ('a' + s)).append(" purse 0 line 1;");
        }
        return text.toString();
    }

    private static String times(String text, int many) {
        return text.repeat(many);
    }

    private static void taken(String text, int singers) {
        FalseNotes x = new FalseNotes();
        Check.given("choir: " + text, x, Check.choir(x, text), singers);
        Check.due("no FAULT of " + text, x.fault(0), 0);
        Check.due("no place of " + text, x.fault(1), -1);
    }

    @Says(at = "Terms 1", words = "A CHOIR is a TEXT of at most 900 bytes.")
    static void aChoirOf900Bytes() {
        FalseNotes x = new FalseNotes();
        Check.due("900 fed", Check.feed(x, times(" ", 882) + "singer a purse 17;"), 900);
        Check.refused("901", x, x.choir(901), 1);
        Check.given("900", x, x.choir(900), 1);
        Check.due("with its last byte but one", x.singer(0, 0), 17);
    }

    @Says(at = "Terms 1", words = "TOKENS, as long as they go,")
    static void tokensGoAsLongAsTheyCan() {
        taken("singer a purse1line2 3;hums4;", 1);
        Check.choirFault("singera purse 1;", 2, 0);
        Check.choirFault("sing er a purse 1;", 2, 0);
        FalseNotes x = Check.valley("singer a purse 12 line 12;singer b purse 1 line 1 2;");
        Check.due("12 is one NUMBER", x.singer(0, 1), 1);
        Check.due("1 2 are two", x.singer(1, 1), 2);
    }

    @Says(at = "Terms 1", words = "between them blanks (10, 32):")
    static void blanksAre10And32() {
        taken("\n singer\n\na  purse \n 1 ;\n \n", 1);
        for (char c : new char[] {0, 9, 11, 12, 13, 31, 33, 127, 160}) {
            Check.choirFault("hums" + c + "1;", 1, 4);
        }
    }

    @Says(at = "Terms 1", words = "WORDS (small letters),")
    static void wordsAreOfSmallLetters() {
        taken("singer az purse 1;", 1);
        for (char c : new char[] {'a' - 1, 'z' + 1, 'A', 'Z', 225}) {
            Check.choirFault("singer " + c + " purse 1;", 1, 7);
            Check.choirFault("singer a" + c + " purse 1;", 1, 8);
        }
    }

    @Says(at = "Terms 1", words = "NUMBERS (1 to 4 digits),")
    static void numbersHave1To4Digits() {
        taken("singer a purse 0009 line 0 0019;", 1);
        taken("hums 0050;", 0);
        Check.choirFault("hums 00050;", 1, 5);
        Check.choirFault("hums /;", 1, 5);
        Check.choirFault("hums :;", 1, 5);
        Check.choirFault("hums -1;", 1, 5);
        FalseNotes x = Check.valley("singer a purse 0987;");
        Check.due("by tens", x.singer(0, 0), 987);
    }

    @Says(at = "Terms 1", words = "SIGNS ; < > =")
    static void signsAreFour() {
        for (char c : new char[] {';', '<', '=', '>'}) {
            Check.choirFault("" + c, 2, 0);
        }
        for (char c : new char[] {':', '?', ',', '!', '&'}) {
            Check.choirFault("" + c, 1, 0);
        }
        Check.choirFault("hums &lt;", 1, 5);
    }

    @Says(at = "Terms 1", words = "CHOIR: {PART}.")
    static void aChoirMayBeEmpty() {
        taken("", 0);
        taken(" \n ", 0);
        taken("hums 1;", 0);
        Check.choirFault("hums 1;;", 2, 7);
    }

    @Says(at = "Terms 1", words = "PART: singer NAME purse NUMBER {VOICE} [line NUMBER {NUMBER}] ;")
    static void thePartsOfASinger() {
        taken("singer a purse 1;", 1);
        taken("singer a purse 1 bass line 1;", 1);
        Check.choirFault("singer", 2, 6);
        Check.choirFault("singer a", 2, 8);
        Check.choirFault("singer a 1;", 2, 9);
        Check.choirFault("singer a purse;", 2, 14);
        Check.choirFault("singer a purse 1", 2, 16);
        Check.choirFault("singer a purse 1 2;", 2, 17);
        Check.choirFault("singer a purse 1 =", 2, 17);
        Check.choirFault("singer a purse 1 line;", 2, 21);
        Check.choirFault("singer a purse 1 line 1", 2, 23);
        Check.choirFault("singer a purse 1 line 1 bass;", 2, 24);
        Check.choirFault("singer a purse 1 line 1 line 2;", 2, 24);
        Check.choirFault("singer a purse 1 hums 1;", 2, 17);
    }

    @Says(at = "Terms 1", words = "or owes NAME NAME NUMBER ;")
    static void thePartsOfOwes() {
        taken(TWO + "owes a b 1;", 2);
        int at = TWO.length();
        Check.choirFault(TWO + "owes", 2, at + 4);
        Check.choirFault(TWO + "owes a 1;", 2, at + 7);
        Check.choirFault(TWO + "owes a to b 1;", 2, at + 7);
        Check.choirFault(TWO + "owes a b;", 2, at + 8);
        Check.choirFault(TWO + "owes a b 1", 2, at + 10);
        Check.choirFault(TWO + "owes a b 1 1;", 2, at + 11);
    }

    @Says(at = "Terms 1", words = "or heir NAME NAME ;")
    static void thePartsOfHeir() {
        taken(TWO + "heir a b;", 2);
        int at = TWO.length();
        Check.choirFault(TWO + "heir", 2, at + 4);
        Check.choirFault(TWO + "heir a", 2, at + 6);
        Check.choirFault(TWO + "heir a;", 2, at + 6);
        Check.choirFault(TWO + "heir a b", 2, at + 8);
        Check.choirFault(TWO + "heir a b 1;", 2, at + 9);
    }

    @Says(at = "Terms 1", words = "or hums NUMBER ;")
    static void thePartsOfHums() {
        taken("hums 1;", 0);
        Check.choirFault("hums", 2, 4);
        Check.choirFault("hums a;", 2, 5);
        Check.choirFault("hums;", 2, 4);
        Check.choirFault("hums 1", 2, 6);
        Check.choirFault("hums 1 1;", 2, 7);
    }

    @Says(at = "Terms 1", words = "VOICE: bass, or cold, or deaf.")
    static void voicesAreThree() {
        String[] voices = {"bass", "cold", "deaf"};
        for (int v = 0; v < 3; v++) {
            FalseNotes x = Check.valley("singer a purse 1 " + voices[v] + ";");
            Check.due(voices[v] + ": BASS", x.singer(0, 2), v == 0 ? 1 : 0);
            Check.due(voices[v] + ": COLD", x.told(8), v == 1 ? 1 : 0);
            Check.due(voices[v] + ": DEAF", x.singer(0, 3), v == 2 ? 1 : 0);
        }
        Check.choirFault("singer a purse 1 alto;", 2, 17);
    }

    @Says(at = "Terms 1", words = "({ } any number of times, [ ] perhaps; each VOICE at most once.)")
    static void eachVoiceAtMostOnce() {
        String[] orders = {"", "bass", "deaf cold", "bass cold deaf", "deaf bass cold", "cold deaf bass"};
        for (String order : orders) {
            taken("singer a purse 1 " + order + ";", 1);
            taken("singer a purse 1 " + order + " line 1;", 1);
        }
        for (String voice : new String[] {"bass", "cold", "deaf"}) {
            Check.choirFault("singer a purse 1 " + voice + " " + voice + ";", 5, 22);
            taken("singer a purse 1 " + voice + ";singer b purse 1 " + voice + ";", 2);
        }
        FalseNotes x = Check.valley("singer a purse 1 bass cold deaf;singer b purse 1;singer c purse 1 bass cold deaf;");
        Check.due("COLD a and c", x.told(8), 5);
        for (int s = 0; s < 3; s++) {
            Check.due("BASS " + s, x.singer(s, 2), s == 1 ? 0 : 1);
            Check.due("DEAF " + s, x.singer(s, 3), s == 1 ? 0 : 1);
        }
    }

    @Says(at = "Terms 1", words = "NAME: a WORD of 1 to 8 letters")
    static void namesHave1To8Letters() {
        taken("singer z purse 1;", 1);
        taken("singer abcdefgh purse 1;singer abcdefgi purse 1;", 2);
        taken("singer zzzzzzzz purse 1;singer zzzzzzz purse 1;", 2);
        taken("singer a purse 1;singer aa purse 1;singer b purse 1;singer bb purse 1;singer ba purse 1;singer ab purse 1;"
                + "singer z purse 1;singer zz purse 1;", 8);
        Check.choirFault("singer abcdefghi purse 1;", 2, 7);
        Check.choirFault("singer purse 1;", 2, 7);
    }

    @Says(at = "Terms 1", words = "that is none of singer, purse, bass, cold, deaf, line, owes, heir, hums, lend, to, pay, sunday, "
            + "die, chord, any, when, debt, still, loop, end, stop.")
    static void namesAreNoneOf22() {
        for (String word : NO_NAMES) {
            Check.choirFault("singer " + word + " purse 1;", 2, 7);
            taken("singer " + word + "x purse 1;", 1);
            taken("singer " + word.substring(0, word.length() - 1) + " purse 1;", 1);
        }
    }

    @Says(at = "Terms 1", words = "One NAME is of one SINGER alone.")
    static void aNameIsOfOneAlone() {
        Check.choirFault(TWO + "singer a purse 1;", 3, TWO.length() + 7);
        Check.choirFault(TWO + "singer b purse 1;", 3, TWO.length() + 7);
        taken(TWO + "singer ab purse 1;singer aa purse 1;", 4);
    }

    @Says(at = "Terms 1", words = "SINGERS, at most 8:")
    static void singersAreAtMost8() {
        taken(singers(8), 8);
        Check.choirFault(singers(9), 6, singers(8).length());
    }

    @Says(at = "Terms 1", words = "a PURSE (0 to 999),")
    static void aPurseOf0To999() {
        FalseNotes x = Check.valley("singer a purse 0;singer b purse 999;");
        Check.due("0", x.singer(0, 0), 0);
        Check.due("999", x.singer(1, 0), 999);
        Check.choirFault("singer a purse 1000;", 4, 15);
        Check.choirFault("singer a purse 9999;", 4, 15);
    }

    @Says(at = "Terms 1", words = "a BASS or not, with a COLD or not, DEAF or not,")
    static void withoutVoices() {
        FalseNotes x = Check.valley("singer a purse 0;singer b purse 0 bass cold deaf;singer c purse 0;");
        int[] of = {0, 1, 0};
        for (int s = 0; s < 3; s++) {
            Check.due("BASS " + s, x.singer(s, 2), of[s]);
            Check.due("DEAF " + s, x.singer(s, 3), of[s]);
        }
        Check.due("COLD", x.told(8), 2);
    }

    @Says(at = "Terms 1", words = "a LINE of 1 to 6 NOTES")
    static void aLineOf1To6Notes() {
        FalseNotes x = Check.valley("singer a purse 0 line 3;singer b purse 0 line 1 2 3 4 5 6;");
        Check.due("one", x.singer(0, 1), 1);
        Check.due("six", x.singer(1, 1), 6);
        for (int note = 0; note < 6; note++) {
            Check.due("NOTE " + note, x.line(1, note), note + 1);
        }
        Check.choirFault("singer a purse 0 line ;", 2, 22);
        Check.choirFault("singer a purse 0 line 1 2 3 4 5 6 7;", 6, 34);
    }

    @Says(at = "Terms 1", words = "(0 to 24 each; 12, 14, 16 without).")
    static void notesOf0To24() {
        FalseNotes x = Check.valley("singer a purse 0 line 0 24;singer b purse 0;singer c purse 0 deaf;");
        Check.due("0", x.line(0, 0), 0);
        Check.due("24", x.line(0, 1), 24);
        for (int s = 1; s <= 2; s++) {
            Check.due("three without", x.singer(s, 1), 3);
            Check.due("12", x.line(s, 0), 12);
            Check.due("14", x.line(s, 1), 14);
            Check.due("16", x.line(s, 2), 16);
        }
        Check.choirFault("singer a purse 0 line 25;", 4, 22);
        Check.choirFault("singer a purse 0 line 0 25;", 4, 24);
    }

    @Says(at = "Terms 1", words = "OWES: the first owes the second so many (1 to 99) more:")
    static void owesOf1To99() {
        FalseNotes x = Check.valley(TWO + "owes a b 1;owes b a 99;owes a b 99;");
        Check.due("1 and 99 more", x.owed(0, 1), 100);
        Check.due("99", x.owed(1, 0), 99);
        Check.choirFault(TWO + "owes a b 0;", 4, TWO.length() + 9);
        Check.choirFault(TWO + "owes a b 100;", 4, TWO.length() + 9);
    }

    @Says(at = "Terms 1", words = "by words of LEND, but no coin goes over, a COLD does not matter.")
    static void owesWithoutCoinsWithACold() {
        FalseNotes x = Check.valley("singer a purse 0 cold;singer b purse 0 line 1;singer c purse 999;"
                + "owes a b 50;owes c b 7;owes a c 5;owes c b 1;");
        Check.due("a COLD one owes", x.held(1, 0, 0), 0);
        Check.due("PURSE of b", x.singer(1, 0), 0);
        Check.due("PURSE of a", x.singer(0, 0), 0);
        Check.due("the next WAITS", x.waiting(0, 0), 2);
        Check.due("for more", x.waiting(0, 2), 8);
        Check.due("the first FREE NOTE", x.held(2, 0, 0), 0);
    }

    @Says(at = "Terms 1", words = "HEIR: the second is the HEIR of the first (told again: the latest).")
    static void heirToldAgain() {
        FalseNotes x = Check.valley(TWO + "singer c purse 1;heir a b;heir a c;heir c a;heir c a;");
        Check.due("the latest", x.singer(0, 4), 2);
        Check.refused("not of the second", x, x.singer(1, 4), 6);
        Check.due("the same again", x.singer(2, 4), 0);
    }

    @Says(at = "Terms 1", words = "HUMS (0 to 50; 0 without) hundredths.")
    static void humsOf0To50() {
        Check.due("0", Check.valley("hums 0;").told(1), 0);
        Check.due("50", Check.valley("hums 50;").told(1), 50);
        Check.due("without", Check.valley(TWO).told(1), 0);
        Check.choirFault("hums 51;", 4, 5);
        FalseNotes x = Check.valley("hums 50;");
        Check.due("hundredths", x.grows(100, 1), 150);
    }

    @Says(at = "Terms 1", words = "All are numbered as they stand; what a PART names must be told ahead.")
    static void partsNameWhatStandsAhead() {
        FalseNotes x = Check.valley("singer z purse 1;hums 3;singer a purse 2;");
        Check.due("z is 0", x.singer(0, 0), 1);
        Check.due("a is 1", x.singer(1, 0), 2);
        Check.choirFault("singer a purse 1;heir a b;singer b purse 1;", 3, 24);
        Check.choirFault("singer a purse 1;owes b a 1;singer b purse 1;", 3, 22);
    }

    @Says(at = "Terms 1", words = "FAULTS, the first along the text (of one TOKEN the least kind):")
    static void theFirstFaultAlongTheText() {
        Check.choirFault("hums 51;singer cold # 12345", 4, 5);
        Check.choirFault("hums # 51;", 1, 5);
        Check.choirFault("singer # a purse 1000;", 1, 7);
        Check.choirFault("singer a purse 1;owes a a 0;", 5, 24);
        Check.choirFault("singer a purse 1;owes c c 0;", 3, 22);
        Check.choirFault("singer a purse 1 line 1 2 3 4 5 6 25;", 4, 34);
        Check.choirFault("singer a purse 1 line 1 2 3 4 5 6 12345;", 1, 34);
        Check.choirFault(singers(8) + "singer a", 6, singers(8).length());
    }

    @Says(at = "Terms 1", words = "1 no TOKEN begins so (a NUMBER of 5 digits and more: at its first).")
    static void fault1NoTokenBeginsSo() {
        Check.choirFault("#", 1, 0);
        Check.choirFault("  _", 1, 2);
        Check.choirFault("hums 1;.", 1, 7);
        Check.choirFault("12345", 1, 0);
        Check.choirFault("singer a purse 00000;", 1, 15);
        Check.choirFault("singer a purse 1 line 1 123456789012 ;", 1, 24);
        Check.choirFault("singer a purse 1(", 1, 16);
        Check.choirFault("singer a purse 1 bass \u00ff", 1, 22);
        Check.choirFault("\0", 1, 0);
    }

    @Says(at = "Terms 1", words = "2 it can't stand there (the end: the text's length;")
    static void fault2AtTheEnd() {
        Check.choirFault("hums", 2, 4);
        Check.choirFault("hums  \n", 2, 7);
        Check.choirFault("singer a purse 1 line 1  ", 2, 25);
        FalseNotes x = new FalseNotes();
        Check.feed(x, "hums 1;hums");
        Check.refused("cut off", x, x.choir(3), 9);
        Check.due("hum can't stand there", x.fault(0), 2);
        Check.due("at its first", x.fault(1), 0);
        Check.feed(x, "hums 1;hums");
        Check.refused("cut off behind a NUMBER", x, x.choir(6), 9);
        Check.due("the length that was asked for", x.fault(1), 6);
        Check.feed(x, "hums 12;");
        Check.refused("cut off within a NUMBER", x, x.choir(6), 9);
        Check.due("the length again", x.fault(1), 6);
        Check.feed(x, " ".repeat(894) + "hums 1");
        Check.refused("at the end of 900", x, x.choir(900), 9);
        Check.due("2", x.fault(0), 2);
        Check.due("900", x.fault(1), 900);
        Check.feed(x, " ".repeat(896) + "hums");
        Check.refused("a WORD at the end of 900", x, x.choir(900), 9);
        Check.due("900 again", x.fault(1), 900);
    }

    @Says(at = "Terms 1", words = "a WORD of 9 letters and more where a NAME must stand).")
    static void fault2WordsOf9Letters() {
        Check.choirFault("singer abcdefghi purse 1;", 2, 7);
        Check.choirFault("singer abcdefghijklmnopqrstuvwxyz purse 1;", 2, 7);
        Check.choirFault("singer abcdefgh purse 1;owes abcdefghi abcdefgh 1;", 2, 29);
        Check.choirFault("singer abcdefgh purse 1;heir abcdefgh abcdefghi;", 2, 38);
    }

    @Says(at = "Terms 1", words = "3 a new NAME that is taken; a NAME that is no such one told ahead.")
    static void fault3Names() {
        Check.choirFault("singer a purse 1;singer a purse 1;", 3, 24);
        Check.choirFault("owes a b 1;", 3, 5);
        Check.choirFault(TWO + "owes a c 1;", 3, TWO.length() + 7);
        Check.choirFault(TWO + "heir c a;", 3, TWO.length() + 5);
        Check.choirFault(TWO + "heir a ab;", 3, TWO.length() + 7);
    }

    @Says(at = "Terms 1", words = "4 a NUMBER that can't be.")
    static void fault4Numbers() {
        Check.choirFault("singer a purse 1000;", 4, 15);
        Check.choirFault("singer a purse 1 line 25;", 4, 22);
        Check.choirFault(TWO + "owes a b 0;", 4, TWO.length() + 9);
        Check.choirFault(TWO + "owes a b 100;", 4, TWO.length() + 9);
        Check.choirFault("hums 51;", 4, 5);
    }

    @Says(at = "Terms 1", words = "5 a SINGER and itself (at the second NAME);")
    static void fault5OneAndItself() {
        Check.choirFault(TWO + "owes b b 1;", 5, TWO.length() + 7);
        Check.choirFault(TWO + "heir a a;", 5, TWO.length() + 7);
        Check.choirFault(TWO + "owes a  a", 5, TWO.length() + 8);
    }

    @Says(at = "Terms 1", words = "a VOICE told already, hums told already (at that WORD).")
    static void fault5ToldAlready() {
        Check.choirFault("singer a purse 1 bass cold deaf bass", 5, 32);
        Check.choirFault("singer a purse 1 cold cold", 5, 22);
        Check.choirFault("singer a purse 1 deaf bass deaf;", 5, 27);
        Check.choirFault("hums 0;hums", 5, 7);
        Check.choirFault("hums 1;singer a purse 1;hums 1;", 5, 24);
    }

    @Says(at = "Terms 1", words = "6 a ninth singer (at that WORD);")
    static void fault6ANinthSinger() {
        Check.choirFault(singers(8) + " singer", 6, singers(8).length() + 1);
        Check.choirFault(singers(8) + "singer cold", 6, singers(8).length());
        taken(singers(8) + "hums 1;heir a b;", 8);
    }

    @Says(at = "Terms 1", words = "a seventh NOTE (at its NUMBER, behind 4);")
    static void fault6ASeventhNote() {
        Check.choirFault("singer a purse 1 line 1 1 1 1 1 1 24;", 6, 34);
        Check.choirFault("singer a purse 1 line 1 1 1 1 1 1 25;", 4, 34);
        Check.choirFault("singer a purse 1 line 1 1 1 1 1 1 bass;", 2, 34);
        taken("singer a purse 1 line 1 1 1 1 1 1 ;", 1);
    }

    @Says(at = "Terms 1", words = "an OWES for which there is no room (at its NUMBER, behind 4).")
    static void fault6NoRoomForOwes() {
        // one holds the NOTE of a and six WAIT for it, one that of b and two WAIT
        String full = singers(8) + "owes b a 1;owes c a 1;owes d a 1;owes e a 1;owes f a 1;owes g a 1;owes h a 1;"
                + "owes a b 1;owes c b 1;owes d b 1;";
        taken(full, 8);
        Check.choirFault(full + "owes e b 1;", 6, full.length() + 9);
        Check.choirFault(full + "owes e b 100;", 4, full.length() + 9);
        Check.choirFault(full + "owes e b 0;", 4, full.length() + 9);
        taken(full + "owes d b 1;owes b a 1;owes a c 1;", 8);
        String most = times("owes a b 99;", 10) + "owes a b 9;";
        taken(TWO + most, 2);
        Check.choirFault(TWO + most + "owes a b 1;", 6, (TWO + most).length() + 9);
        Check.choirFault(TWO + most + "owes a b 0;", 4, (TWO + most).length() + 9);
        String waits = singers(3) + "owes a c 1;" + times("owes b c 99;", 10);
        taken(waits + "owes b c 9;", 3);
        Check.choirFault(waits + "owes b c 10;", 6, waits.length() + 9);
    }

    @Says(at = "Terms 1", words = "A CHOIR that is taken is there in place of that ahead; it is SUNDAY 0, nothing was PAID, there are no YEARS.")
    static void aChoirTakenIsInPlaceOfThatAhead() {
        FalseNotes x = Check.valley("singer a purse 9 cold bass deaf line 1;singer b purse 9;singer c purse 9;owes a b 5;owes b a 5;"
                + "owes c a 5;heir a b;hums 9;");
        x.sunday();
        x.pay(0, 1, 2);
        x.die(1);
        Check.years(x, "any;");
        Check.given("another", x, Check.choir(x, "singer a purse 3;singer b purse 4;"), 2);
        int[] told = {2, 0, 0, 0, 0, 0, 7, 0, 0, 0};
        for (int what = 0; what < 10; what++) {
            Check.given("told " + what, x, x.told(what), told[what]);
        }
        Check.refused("no YEARS", x, x.live(0), 6);
        Check.refused("no HEIR", x, x.singer(0, 4), 6);
        Check.due("no BASS", x.singer(0, 2), 0);
        Check.due("not DEAF", x.singer(0, 3), 0);
        Check.due("three NOTES", x.singer(0, 1), 3);
        Check.given("none, too", x, x.choir(0), 0);
        Check.due("no SINGERS", x.told(0), 0);
    }

    @Says(at = "Terms 1", words = "A CHOIR that is taken is there in place of that ahead;")
    static void aThirdChoirHasNothingOfTheFirst() {
        String first = "singer a purse 90 cold bass deaf line 1;singer b purse 90 cold bass deaf line 1;singer c purse 90 line 1;"
                + "owes a b 5;owes c b 6;owes b a 7;owes c a 8;heir a b;heir b a;hums 9;";
        // the first is done to and replaced, or it has a FAULT at its end
        for (int which = 0; which < 2; which++) {
            FalseNotes x = new FalseNotes();
            Check.choir(x, which == 0 ? first : first + "#");
            x.sunday();
            x.pay(0, 1, 3);
            x.die(2);
            Check.choir(x, which == 0 ? "singer z purse 1;" : first + "hums");
            Check.given("the third", x, Check.choir(x, "singer a purse 3;singer d purse 4;"), 2);
            int[] told = {2, 0, 0, 0, 0, 0, 7, 0, 0, 0};
            for (int what = 0; what < 10; what++) {
                Check.given("told " + what, x, x.told(what), told[what]);
            }
            int[][] singer = {{3, 3, 0, 0, -1, 0, 0}, {4, 3, 0, 0, -1, 0, 0}};
            for (int s = 0; s < 2; s++) {
                for (int what = 0; what < 7; what++) {
                    Check.due("singer " + s + " " + what, x.singer(s, what), singer[s][what]);
                }
                for (int note = 0; note < 3; note++) {
                    Check.refused("FREE " + s + " " + note, x, x.held(s, note, 0), 6);
                    Check.due("line " + s + " " + note, x.line(s, note), 12 + 2 * note);
                    Check.due("sung " + s + " " + note, x.sung(s, note), 12 + 2 * note);
                }
            }
        }
    }

    @Says(at = "Terms 1", words = "a NAME that is no such one told ahead.")
    static void fault3NamesOfAnOlderChoir() {
        FalseNotes x = new FalseNotes();
        Check.choir(x, TWO);
        Check.choir(x, "singer x purse 1;");
        Check.refused("b was of the first", x, Check.choir(x, "singer a purse 1;heir a b;"), 9);
        Check.due("3", x.fault(0), 3);
        Check.due("at b", x.fault(1), 24);
        Check.choirFault(singers(8) + "heir a i;", 3, singers(8).length() + 7);
    }

    /** Each of eight owes each other, which fills 48 NOTES and makes 8 WAIT: no CHOIR has more DEBTS. */
    static String fullest() {
        StringBuilder text = new StringBuilder(singers(8).replace("line 1", "line 1 1 1 1 1 1"));
        for (char a = 'a'; a <= 'h'; a++) {
            for (char b = 'a'; b <= 'h'; b++) {
                text.append(a == b ? "" : "owes " + a + " " + b + " 1;");
            }
        }
        return text.toString();
    }

    @Says(at = "Terms 1", words = "SINGERS, at most 8: a PURSE (0 to 999), a BASS or not, with a COLD or not, DEAF or not, a LINE of 1 to 6 NOTES")
    static void theFullestChoir() {
        FalseNotes x = Check.valley(fullest());
        int[] told = {8, 0, 0, 48, 8, 56, 0, 0, 0, 0};
        for (int what = 0; what < 10; what++) {
            Check.given("told " + what, x, x.told(what), told[what]);
        }
        for (int s = 0; s < 8; s++) {
            Check.given("owes", x, x.singer(s, 5), 7);
            Check.given("is OWED", x, x.singer(s, 6), 7);
            Check.given("BALANCE", x, x.balance(s), 0);
            Check.given("no FREE NOTE", x, x.free(s), 0);
            Check.given("one WAITS", x, x.queue(s), 1);
            Check.given("falsest", x, x.falsest(s), 0);
            Check.refused("nobody's", x, x.whose(s, 2), 6);
            // h came last to each LINE, so it holds no NOTE
            Check.given("behind", x, x.behind(s), s == 7 ? 0 : 255 - (1 << s));
        }
        Check.given("six NOTES", x, x.sung(7, 5), 2);
        x.tray(0, 0, 6);
        Check.given("copySung", x, x.copySung(7, 0), 6);
        Check.given("heard", x, x.heard(7, 0), 6);
        Check.given("transposed", x, x.transposed(7, 0), 0);
        Check.refused("forged", x, x.forged(7, 0), 6);
        Check.given("richest", x, x.richest(), 0);
        Check.given("deepest", x, x.deepest(), 0);
        Check.refused("roomiest", x, x.roomiest(), 6);
        Check.given("payings", x, x.payings(), 0);
        Check.given("round", x, x.round(), 3);
        Check.given("ask", x, x.ask(), 7);
        Check.given("askSet", x, x.askSet(), 127);
        Check.given("chain", x, x.chain(), 8);
        Check.given("shorts", x, x.shorts(), 0);
        Check.given("bass", x, x.bass());
        Check.given("owedIn", x, x.owedIn(999), 56);
        x.hum(1);
        Check.given("sunday", x, x.sunday(), 48 * 2 + 8);
        Check.given("the last dies", x, x.die(7), 7);
        Check.given("42 of 7 are left", x, x.told(3) + x.told(4), 42);
        Check.given("chords", x, x.chords() > 0 ? 1 : 0, 1);
    }

    @Says(at = "Promise 9", words = "Twenty bytes come behind those on the tape, the highest of each int first: how many it has;")
    static void feedTheHighestFirst() {
        FalseNotes x = new FalseNotes();
        Check.due("first", x.feed(0x68756d73, 0x20313b20, 0x73696e67, 0x65722061, 0x20707572), 20);
        Check.due("behind those", x.feed(0x73652032, 0x3bffffff, -1, Integer.MIN_VALUE, 0), 40);
        Check.given("hums 1; singer a purse 2;", x, x.choir(25), 1);
        Check.due("HUMS", x.told(1), 1);
        Check.due("PURSE", x.singer(0, 0), 2);
    }

    @Says(at = "Promise 9", words = "NONE if there would be more than 900.")
    static void feedAbove900() {
        FalseNotes x = new FalseNotes();
        for (int i = 1; i <= 45; i++) {
            Check.due("feed", Check.feed(x, i == 45 ? times(" ", 13) + "hums 7;" : times(" ", 20)), 20 * i);
        }
        Check.due("more than 900", x.feed(0, 0, 0, 0, 0), -1);
        Check.due("again", x.feed(-1, -1, -1, -1, -1), -1);
        Check.due("no STATUS", x.status(), 0);
        Check.given("the 900 are as they were", x, x.choir(900), 0);
        Check.due("to the last", x.told(1), 7);
        Check.due("empty then", x.feed(0, 0, 0, 0, 0), 20);
    }

    @Says(at = "Promise 10", words = "The first n bytes of the tape (which is empty then) are the CHOIR: how many SINGERS")
    static void choirOfTheFirstBytes() {
        FalseNotes x = new FalseNotes();
        Check.feed(x, "singer a purse 1;singer b purse 2;hums 3;");
        Check.given("17 bytes", x, x.choir(17), 1);
        Check.refused("nothing is left", x, x.choir(1), 1);
        Check.feed(x, "hums 3;");
        Check.given("no bytes", x, x.choir(0), 0);
        Check.due("empty then", x.feed(0, 0, 0, 0, 0), 20);
    }

    @Says(at = "Promise 10", words = "(1: n below 0, or more than the tape has, too;")
    static void choirOfTooManyBytes() {
        FalseNotes x = new FalseNotes();
        Check.feed(x, "hums 3;hums 4;      ");
        Check.refused("-1", x, x.choir(-1), 1);
        Check.refused("the lowest int", x, x.choir(Integer.MIN_VALUE), 1);
        Check.refused("21", x, x.choir(21), 1);
        Check.refused("the highest int", x, x.choir(Integer.MAX_VALUE), 1);
        Check.due("ahead of any FAULT", x.fault(0), -1);
        Check.given("the tape stays", x, x.choir(7), 0);
        Check.due("HUMS", x.told(1), 3);
    }

    @Says(at = "Promise 10", words = "9: the old one stays).")
    static void choirWithAFault() {
        FalseNotes x = Check.valley("singer a purse 5;singer b purse 6;owes a b 4;hums 10;heir a b;");
        Check.years(x, "sunday;");
        x.sunday();
        x.pay(0, 1, 2);
        Check.refused("a FAULT at the end", x, Check.choir(x, "singer z purse 1 bass;hums 50;singer y purse"), 9);
        int[] told = {2, 10, 1, 1, 0, 3, 11, 2, 0, 0};
        for (int what = 0; what < 10; what++) {
            Check.given("told " + what, x, x.told(what), told[what]);
        }
        Check.due("HEIR", x.singer(0, 4), 1);
        Check.due("no BASS", x.singer(0, 2), 0);
        Check.given("its YEARS", x, x.live(0), 1);
        Check.due("the tape is empty", x.feed(0, 0, 0, 0, 0), 20);
    }

    @Says(at = "Promise 11", words = "Likewise the YEARS: how many STEPS")
    static void yearsOfTheFirstBytes() {
        FalseNotes x = Check.valley(TWO);
        Check.feed(x, "any;sunday;any;");
        Check.given("11 bytes", x, x.years(11), 2);
        Check.refused("nothing is left", x, x.years(1), 1);
        Check.given("no bytes", x, x.years(0), 0);
        for (int steps = 5; steps > 0; steps--) {
            Check.given("each time anew", x, Check.years(x, "any;".repeat(steps)), steps);
        }
        Check.refused("a FAULT behind three", x, Check.years(x, "any;any;any;#"), 9);
        Check.given("one behind a FAULT", x, Check.years(x, "any;"), 1);
    }

    @Says(at = "Promise 11", words = "(1: above 300, too;")
    static void yearsAbove300() {
        FalseNotes x = new FalseNotes();
        Check.feed(x, times(" ", 296) + "any;any;");
        Check.refused("-1", x, x.years(-1), 1);
        Check.refused("301", x, x.years(301), 1);
        Check.refused("more than the tape has", x, x.years(321), 1);
        Check.given("300", x, x.years(300), 1);
        Check.feed(x, "any;");
        Check.refused("21 of 20", x, x.years(21), 1);
    }

    @Says(at = "Promise 11", words = "9).")
    static void yearsWithAFault() {
        FalseNotes x = Check.valley(TWO);
        Check.years(x, "sunday;sunday;");
        Check.refused("a FAULT at the end", x, Check.years(x, "any;any;any"), 9);
        Check.given("the old ones stay", x, x.live(0), 2);
        Check.due("both SUNDAYS", x.lived(3), 2);
        Check.due("the tape is empty", x.feed(0, 0, 0, 0, 0), 20);
    }

    @Says(at = "Promise 12", words = "Of the latest choir() or years() with STATUS 0 or 9,")
    static void faultOfTheLatest() {
        FalseNotes x = new FalseNotes();
        Check.choir(x, "hums 51;");
        Check.due("of choir()", x.fault(0), 4);
        x.choir(1);
        x.years(-1);
        Check.due("STATUS 1 tells nothing", x.fault(0), 4);
        Check.due("its place", x.fault(1), 5);
        Check.years(x, "loop 1;");
        Check.due("of years()", x.fault(1), 7);
        Check.choir(x, "hums 1;");
        Check.due("of STATUS 0", x.fault(0), 0);
        Check.years(x, "end;");
        x.mark();
        x.undo();
        Check.due("others tell nothing", x.fault(0), 2);
    }

    @Says(at = "Promise 12", words = "what 0: the FAULT (0 without one), 1: its place (NONE without).")
    static void faultWithoutOne() {
        FalseNotes x = new FalseNotes();
        Check.choir(x, "hums 51;");
        Check.choir(x, "");
        Check.due("0 without one", x.fault(0), 0);
        Check.due("NONE without", x.fault(1), -1);
        Check.years(x, "#");
        Check.due("1", x.fault(0), 1);
        Check.due("at 0", x.fault(1), 0);
    }

    @Says(at = "Promise 12", words = "NONE for others, and ahead of any.")
    static void faultOfOthers() {
        FalseNotes x = new FalseNotes();
        Check.due("the FAULT ahead of any", x.fault(0), -1);
        Check.due("its place ahead of any", x.fault(1), -1);
        Check.choir(x, "#");
        for (int what : new int[] {-1, 2, Integer.MIN_VALUE, Integer.MAX_VALUE}) {
            Check.due("what " + what, x.fault(what), -1);
        }
    }
}
