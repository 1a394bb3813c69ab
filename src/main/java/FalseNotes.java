import java.util.Arrays;

/** A valley of choirs that books its debts in wrong notes. */
public final class FalseNotes {
    public static final int NONE = -1;

    private static final int CANT_BE = 1;
    private static final int MISSING = 2;
    private static final int NO_PLACE = 3;
    private static final int TOO_MANY = 4;
    private static final int BAD_CELL = 5;
    private static final int NO_SUCH = 6;
    private static final int REFUSED = 7;
    private static final int UNLIKE = 8;
    private static final int FAULTY = 9;

    private static final int TRAYS = 4;
    private static final int MOST_BYTES = 900;
    private static final int MOST_YEARS_BYTES = 300;
    private static final int MOST_SEED = 9999;
    private static final int MOST_SEEDS = 20;
    private static final int MOST_SPAN = 999;
    private static final int LOWEST_HEARD = -12;
    private static final int HIGHEST_HEARD = 2000;

    private static final int BY_OWED = 0;
    private static final int BY_OWING = 1;
    private static final int BY_ROOM = 2;

    private final Tray[] trays = new Tray[TRAYS];
    private final byte[] tape = new byte[MOST_BYTES];
    private final ChoirReader choirReader = new ChoirReader();
    private final YearsReader yearsReader = new YearsReader();
    private final Marks kept = new Marks();
    private final Ties ties = new Ties();
    private final Life life = new Life();
    private final Life trialLife = new Life();
    private final Choir trialChoir = new Choir();
    private Choir choir = new Choir();
    private Choir spareChoir = new Choir();
    private Years years = new Years();
    private Years spareYears = new Years();
    private int status = 0;
    private long top = 0;
    private long bottom = 1;
    private int tapeSize = 0;
    private int faultKind = NONE;
    private int faultPlace = NONE;

    public FalseNotes() {
        for (int i = 0; i < TRAYS; i++) {
            trays[i] = new Tray();
        }
    }

    public int status() {
        return status;
    }

    public long top() {
        return top;
    }

    public long bottom() {
        return bottom;
    }

    // ---- TRAYS

    public boolean tray(int tray, int sort, int many) {
        if (!isTray(tray) || sort < 0 || sort > Tray.WIDEST || many < 0 || many > Tray.MOST) {
            return deny(CANT_BE);
        }
        trays[tray].make(sort, many);
        return agree();
    }

    public boolean write(int tray, int place, long v) {
        int why = cellStatus(tray, place);
        if (why != 0) {
            return deny(why);
        }
        trays[tray].put(place, v);
        return agree();
    }

    public long read(int tray, int place) {
        int why = cellStatus(tray, place);
        if (why != 0) {
            return refuse(why);
        }
        status = 0;
        return trays[tray].cells[place];
    }

    public boolean pour(int from, int place, int to, int at, int many) {
        if (!isTray(from) || !isTray(to) || place < 0 || at < 0 || many < 0) {
            return deny(CANT_BE);
        }
        Tray source = trays[from];
        Tray target = trays[to];
        if (source.isMissing() || target.isMissing()) {
            return deny(MISSING);
        }
        if (source.sort != target.sort) {
            return deny(UNLIKE);
        }
        if (!source.hasRow(place, many) || !target.hasRow(at, many)) {
            return deny(NO_PLACE);
        }
        System.arraycopy(source.cells, place, target.cells, at, many);
        return agree();
    }

    // ---- texts

    public int feed(int a, int b, int c, int d, int e) {
        if (tapeSize + 20 > MOST_BYTES) {
            return NONE;
        }
        spool(a);
        spool(b);
        spool(c);
        spool(d);
        spool(e);
        return tapeSize;
    }

    public int choir(int n) {
        if (n < 0 || n > tapeSize) {
            return refuse(CANT_BE);
        }
        boolean taken = choirReader.readAll(tape, n, spareChoir);
        noteFault(choirReader.tokens);
        if (!taken) {
            return refuse(FAULTY);
        }
        Choir old = choir;
        choir = spareChoir;
        spareChoir = old;
        years.forget();
        return answer(choir.singers);
    }

    public int years(int n) {
        if (n < 0 || n > tapeSize || n > MOST_YEARS_BYTES) {
            return refuse(CANT_BE);
        }
        boolean taken = yearsReader.readAll(tape, n, choir, spareYears);
        noteFault(yearsReader.tokens);
        if (!taken) {
            return refuse(FAULTY);
        }
        Years old = years;
        years = spareYears;
        spareYears = old;
        return answer(years.steps);
    }

    public int fault(int what) {
        if (what == 0) {
            return faultKind;
        }
        return what == 1 ? faultPlace : NONE;
    }

    public int told(int what) {
        switch (what) {
            case 0: return answer(choir.singers);
            case 1: return answer(choir.hums);
            case 2: return answer(choir.sunday);
            case 3: return answer(choir.debtsAtNotes());
            case 4: return answer(choir.waiting.size);
            case 5: return answer(choir.allOwed());
            case 6: return answer(choir.allCoins());
            case 7: return answer(choir.paid);
            case 8: return answer(choir.colds);
            case 9: return answer(choir.dead);
            default: return refuse(CANT_BE);
        }
    }

    public int singer(int singer, int what) {
        if (!choir.knows(singer)) {
            return refuse(CANT_BE);
        }
        switch (what) {
            case 0: return answer(choir.purses[singer]);
            case 1: return answer(choir.lengths[singer]);
            case 2: return answer(Choir.oneIfIn(choir.basses, singer));
            case 3: return answer(Choir.oneIfIn(choir.deaf, singer));
            case 4: return answerOr(choir.heirs[singer], NO_SUCH);
            case 5: return answer(choir.owesInAll(singer));
            case 6: return answer(choir.isOwedInAll(singer));
            default: return refuse(CANT_BE);
        }
    }

    public int line(int singer, int note) {
        if (!choir.knows(singer) || !choir.hasNote(singer, note)) {
            return refuse(CANT_BE);
        }
        return answer(choir.notes[Choir.slot(singer, note)]);
    }

    public int held(int singer, int note, int what) {
        if (!choir.knows(singer) || !choir.hasNote(singer, note) || what < 0 || what > 1) {
            return refuse(CANT_BE);
        }
        int slot = Choir.slot(singer, note);
        if (choir.holders[slot] == NONE) {
            return refuse(NO_SUCH);
        }
        return answer(what == 0 ? choir.holders[slot] : choir.debts[slot]);
    }

    public int owed(int a, int b) {
        if (!choir.knows(a) || !choir.knows(b) || a == b) {
            return refuse(CANT_BE);
        }
        return answer(choir.owedBetween(a, b));
    }

    public int waiting(int k, int what) {
        if (what < 0 || what > 2) {
            return refuse(CANT_BE);
        }
        Waiting row = choir.waiting;
        if (k < 0 || k >= row.size) {
            return refuse(NO_SUCH);
        }
        if (what == 0) {
            return answer(row.who[k]);
        }
        return answer(what == 1 ? row.whom[k] : row.much[k]);
    }

    public int sung(int singer, int note) {
        if (!choir.lives(singer) || !choir.hasNote(singer, note)) {
            return refuse(CANT_BE);
        }
        return answer(choir.sungAt(singer, note));
    }

    public int copySung(int singer, int tray) {
        int why = lineTrayStatus(singer, tray);
        if (why != 0) {
            return refuse(why);
        }
        int many = choir.lengths[singer];
        for (int note = 0; note < many; note++) {
            trays[tray].put(note, choir.sungAt(singer, note));
        }
        return answer(many);
    }

    // ---- what is done

    public int lend(int from, int to, int n) {
        if (!choir.areTwo(from, to) || n < 1 || n > Choir.MOST_LENT) {
            return refuse(CANT_BE);
        }
        if (!choir.lendCoins(from, to, n)) {
            return refuse(REFUSED);
        }
        return answer(choir.owedBetween(to, from));
    }

    public int pay(int from, int to, int n) {
        if (!choir.areTwo(from, to) || n < 1 || n > Choir.MOST_DEBT) {
            return refuse(CANT_BE);
        }
        if (!choir.payCoins(from, to, n)) {
            return refuse(REFUSED);
        }
        return answer(choir.owedBetween(from, to));
    }

    public int chord(int a, int b) {
        if (!choir.areTwo(a, b)) {
            return refuse(CANT_BE);
        }
        int off = choir.netTwo(a, b);
        return off == 0 ? refuse(REFUSED) : answer(off);
    }

    public int sunday() {
        if (!choir.keepSunday()) {
            return refuse(TOO_MANY);
        }
        return answer(choir.allOwed());
    }

    public int cold(int singer) {
        if (!choir.lives(singer)) {
            return refuse(CANT_BE);
        }
        return answerOr(choir.catchCold(singer), REFUSED);
    }

    public int well(int singer) {
        if (!choir.lives(singer)) {
            return refuse(CANT_BE);
        }
        if (!Choir.isIn(choir.colds, singer)) {
            return refuse(REFUSED);
        }
        choir.colds &= ~(1 << singer);
        return answer(Integer.bitCount(choir.colds));
    }

    public int die(int singer) {
        if (!choir.lives(singer)) {
            return refuse(CANT_BE);
        }
        choir.bury(singer);
        return answer(choir.livingCount());
    }

    public int earn(int singer, int much) {
        if (!choir.lives(singer) || much < 1 || much > Choir.MOST_TOLD_COINS) {
            return refuse(CANT_BE);
        }
        if (choir.purses[singer] + much > Choir.MOST_COINS) {
            return refuse(REFUSED);
        }
        choir.purses[singer] += much;
        return answer(choir.purses[singer]);
    }

    public boolean name(int singer, int heir) {
        if (!choir.lives(singer) || singer == heir || heir != NONE && !choir.lives(heir)) {
            return deny(CANT_BE);
        }
        choir.heirs[singer] = heir;
        return agree();
    }

    public boolean hum(int hums) {
        if (hums < 0 || hums > Choir.MOST_HUMS) {
            return deny(CANT_BE);
        }
        choir.hums = hums;
        return agree();
    }

    public int chords() {
        return answer(choir.netAll());
    }

    // ---- balances

    public int balance(int singer) {
        if (!choir.lives(singer)) {
            return refuse(CANT_BE);
        }
        return answer(choir.balanceOf(singer));
    }

    public int payings() {
        ties.look(choir);
        return answer(ties.unevenCount() - ties.mostParts());
    }

    public int parts() {
        ties.look(choir);
        return answer(ties.mostParts());
    }

    public int shorts() {
        int set = 0;
        for (int s = 0; s < choir.singers; s++) {
            if (choir.lacks(s) > 0) {
                set |= 1 << s;
            }
        }
        return answer(set);
    }

    public int lacking() {
        int sum = 0;
        for (int s = 0; s < choir.singers; s++) {
            sum += choir.lacks(s);
        }
        return answer(sum);
    }

    public int richest() {
        return firstWithMost(BY_OWED);
    }

    public int deepest() {
        return firstWithMost(BY_OWING);
    }

    public boolean bass() {
        int all = choir.allOwed();
        if (all == 0) {
            return deny(NO_SUCH);
        }
        int toBasses = 0;
        for (int s = 0; s < choir.singers; s++) {
            if (Choir.isIn(choir.basses, s)) {
                toBasses += choir.isOwedInAll(s);
            }
        }
        tellFraction(toBasses, all);
        return agree();
    }

    public int round() {
        ties.look(choir);
        int length = ties.findRound();
        return length == 0 ? refuse(NO_SUCH) : answer(length);
    }

    public int roundAt(int k) {
        if (k < 0) {
            return refuse(CANT_BE);
        }
        ties.look(choir);
        if (k >= ties.findRound()) {
            return refuse(NO_SUCH);
        }
        return answer(ties.path[k]);
    }

    public int clear() {
        ties.look(choir);
        int length = ties.findRound();
        if (length == 0) {
            return refuse(REFUSED);
        }
        return answer(choir.clearRing(ties.path, length));
    }

    public int ask() {
        ties.look(choir);
        return answer(Integer.bitCount(ties.leastAsked()));
    }

    public int askSet() {
        ties.look(choir);
        return answer(ties.leastAsked());
    }

    public int chain() {
        ties.look(choir);
        return answer(ties.longestRow());
    }

    public int behind(int singer) {
        if (!choir.lives(singer)) {
            return refuse(CANT_BE);
        }
        ties.look(choir);
        return answer(ties.reachedFrom(singer));
    }

    // ---- notes

    public int free(int singer) {
        if (!choir.lives(singer)) {
            return refuse(CANT_BE);
        }
        return answer(choir.freeNotes(singer));
    }

    public int queue(int singer) {
        if (!choir.lives(singer)) {
            return refuse(CANT_BE);
        }
        return answer(choir.waiting.countFor(singer));
    }

    public int roomiest() {
        return firstWithMost(BY_ROOM);
    }

    public int falsest(int singer) {
        if (!choir.lives(singer)) {
            return refuse(CANT_BE);
        }
        int best = NONE;
        int most = 0;
        for (int note = 0; note < choir.lengths[singer]; note++) {
            int debt = choir.debts[Choir.slot(singer, note)];
            if (debt > most) {
                most = debt;
                best = note;
            }
        }
        return answerOr(best, NO_SUCH);
    }

    public int heard(int singer, int tray) {
        int why = heardStatus(singer, tray);
        if (why != 0) {
            return refuse(why);
        }
        int more = 0;
        for (int note = 0; note < choir.lengths[singer]; note++) {
            int debt = choir.debts[Choir.slot(singer, note)];
            more += offAt(singer, tray, note) + debt;
        }
        return answer(more);
    }

    public int transposed(int singer, int tray) {
        int why = heardStatus(singer, tray);
        if (why != 0) {
            return refuse(why);
        }
        int off = offAt(singer, tray, 0);
        for (int note = 1; note < choir.lengths[singer]; note++) {
            if (offAt(singer, tray, note) != off) {
                return refuse(NO_SUCH);
            }
        }
        return answer(off);
    }

    public int forged(int singer, int tray) {
        int why = heardStatus(singer, tray);
        if (why != 0) {
            return refuse(why);
        }
        int found = NONE;
        for (int note = 0; note < choir.lengths[singer]; note++) {
            if (offAt(singer, tray, note) != 0) {
                if (found != NONE) {
                    return refuse(NO_SUCH);
                }
                found = note;
            }
        }
        return answerOr(found, NO_SUCH);
    }

    public int whose(int singer, int debt) {
        if (!choir.lives(singer) || debt < 1 || debt > Choir.MOST_DEBT) {
            return refuse(CANT_BE);
        }
        for (int note = 0; note < choir.lengths[singer]; note++) {
            int slot = Choir.slot(singer, note);
            if (choir.debts[slot] == debt) {
                return answer(choir.holders[slot]);
            }
        }
        return refuse(NO_SUCH);
    }

    // ---- hums

    public int grows(int n, int sundays) {
        if (!isDebtOrNone(n) || !isSpan(sundays)) {
            return refuse(CANT_BE);
        }
        return answer(choir.grownIn(n, sundays));
    }

    public int before(int n, int sundays) {
        if (!isDebtOrNone(n) || !isSpan(sundays)) {
            return refuse(CANT_BE);
        }
        int low = 0;
        int high = Choir.MOST_DEBT;
        // halving is sound: of two DEBTS the greater never grows to less
        for (int turn = 0; turn < 32 && low < high; turn++) {
            int middle = (low + high) / 2;
            if (choir.grownIn(middle, sundays) >= n) {
                high = middle;
            } else {
                low = middle + 1;
            }
        }
        return answer(low);
    }

    public int when(int n, int k) {
        if (!isDebtOrNone(n) || !isDebtOrNone(k)) {
            return refuse(CANT_BE);
        }
        int debt = n;
        for (int sundays = 0; sundays <= MOST_SPAN; sundays++) {
            if (debt >= k) {
                return answer(sundays);
            }
            debt = choir.grown(debt);
        }
        return refuse(NO_SUCH);
    }

    public int owedIn(int sundays) {
        if (!isSpan(sundays)) {
            return refuse(CANT_BE);
        }
        return answer(choir.allOwedIn(sundays));
    }

    // ---- YEARS

    public int live(int seed) {
        if (seed < 0 || seed > MOST_SEED) {
            return refuse(CANT_BE);
        }
        if (!years.told) {
            return refuse(NO_SUCH);
        }
        life.run(years, choir, seed);
        return answer(life.steps);
    }

    public int lived(int what) {
        if (what < 0 || what > 4) {
            return refuse(CANT_BE);
        }
        if (!life.happened) {
            return refuse(NO_SUCH);
        }
        switch (what) {
            case 0: return answer(life.missed);
            case 1: return answer(life.lent);
            case 2: return answer(life.paid);
            case 3: return answer(life.sundays);
            default: return answer(life.left);
        }
    }

    public boolean mean(int seed, int many) {
        if (seed < 0 || seed > MOST_SEED || many < 1 || many > MOST_SEEDS || seed + many - 1 > MOST_SEED) {
            return deny(CANT_BE);
        }
        if (!years.told) {
            return deny(NO_SUCH);
        }
        long sum = 0;
        for (int i = 0; i < many; i++) {
            trialChoir.takeFrom(choir);
            trialLife.run(years, trialChoir, seed + i);
            sum += trialChoir.allOwed();
        }
        tellFraction(sum, many);
        return agree();
    }

    // ---- MARKS

    public int mark() {
        if (kept.count >= Marks.MOST) {
            return refuse(TOO_MANY);
        }
        kept.keep(choir, years);
        return answer(kept.count);
    }

    public int undo() {
        if (kept.count == 0) {
            return refuse(NO_SUCH);
        }
        kept.giveBack(choir, years);
        return answer(kept.count);
    }

    private int answer(int value) {
        status = 0;
        return value;
    }

    private int answerOr(int value, int whyNone) {
        return value == NONE ? refuse(whyNone) : answer(value);
    }

    private int refuse(int why) {
        status = why;
        return NONE;
    }

    private boolean agree() {
        status = 0;
        return true;
    }

    private boolean deny(int why) {
        status = why;
        return false;
    }

    private int firstWithMost(int measure) {
        int best = NONE;
        int most = 0;
        for (int s = 0; s < choir.singers; s++) {
            int much = measured(s, measure);
            if (much > most) {
                most = much;
                best = s;
            }
        }
        return answerOr(best, NO_SUCH);
    }

    private int measured(int singer, int measure) {
        switch (measure) {
            case BY_OWED: return choir.isOwedInAll(singer);
            case BY_OWING: return choir.owesInAll(singer);
            // a DEAD one's LINE is FREE, but it is no SINGER
            default: return choir.lives(singer) ? choir.freeNotes(singer) : 0;
        }
    }

    private static boolean isTray(int tray) {
        return tray >= 0 && tray < TRAYS;
    }

    private static boolean isDebtOrNone(int n) {
        return n >= 0 && n <= Choir.MOST_DEBT;
    }

    private static boolean isSpan(int sundays) {
        return sundays >= 0 && sundays <= MOST_SPAN;
    }

    private int cellStatus(int tray, int place) {
        if (!isTray(tray)) {
            return CANT_BE;
        }
        if (trays[tray].isMissing()) {
            return MISSING;
        }
        return place >= 0 && place < trays[tray].size ? 0 : NO_PLACE;
    }

    private int lineTrayStatus(int singer, int tray) {
        if (!choir.lives(singer) || !isTray(tray)) {
            return CANT_BE;
        }
        if (trays[tray].isMissing()) {
            return MISSING;
        }
        return trays[tray].size < choir.lengths[singer] ? NO_PLACE : 0;
    }

    private int heardStatus(int singer, int tray) {
        int why = lineTrayStatus(singer, tray);
        if (why != 0) {
            return why;
        }
        for (int note = 0; note < choir.lengths[singer]; note++) {
            long cell = trays[tray].cells[note];
            if (cell < LOWEST_HEARD || cell > HIGHEST_HEARD) {
                return BAD_CELL;
            }
        }
        return 0;
    }

    private int offAt(int singer, int tray, int note) {
        return (int) trays[tray].cells[note] - choir.sungAt(singer, note);
    }

    private void spool(int four) {
        tape[tapeSize] = (byte) (four >> 24);
        tape[tapeSize + 1] = (byte) (four >> 16);
        tape[tapeSize + 2] = (byte) (four >> 8);
        tape[tapeSize + 3] = (byte) four;
        tapeSize += 4;
    }

    private void noteFault(Tokens tokens) {
        tapeSize = 0;
        faultKind = tokens.fault;
        faultPlace = tokens.fault == 0 ? NONE : tokens.place;
    }

    private void tellFraction(long over, long under) {
        long a = under;
        long b = over;
        for (int turn = 0; turn < 100 && b != 0; turn++) {
            long rest = a % b;
            a = b;
            b = rest;
        }
        // a is the greatest common divisor now, and above 0 as under is
        top = a == 0 ? 0 : over / a;
        bottom = a == 0 ? 1 : under / a;
    }

    /** A row of numbers of one sort, or none yet. */
    private static final class Tray {
        static final int MOST = 60;
        static final int WIDEST = 3;

        final long[] cells = new long[MOST];
        int sort = 0;
        int size = NONE;

        boolean isMissing() {
            return size == NONE;
        }

        void make(int newSort, int many) {
            Arrays.fill(cells, 0L);
            sort = newSort;
            size = many;
        }

        void put(int place, long v) {
            cells[place] = cut(v);
        }

        boolean hasRow(int place, int many) {
            return (long) place + many <= size;
        }

        long cut(long v) {
            switch (sort) {
                case 0: return (byte) v;
                case 1: return (short) v;
                case 2: return (int) v;
                default: return v;
            }
        }
    }

    /** DEBTS for which there was no NOTE, in the order in which they came. */
    private static final class Waiting {
        static final int MOST = 8;

        final int[] who = new int[MOST];
        final int[] whom = new int[MOST];
        final int[] much = new int[MOST];
        int size = 0;

        void takeFrom(Waiting other) {
            System.arraycopy(other.who, 0, who, 0, MOST);
            System.arraycopy(other.whom, 0, whom, 0, MOST);
            System.arraycopy(other.much, 0, much, 0, MOST);
            size = other.size;
        }

        int placeOf(int debtor, int creditor) {
            for (int k = 0; k < size; k++) {
                if (who[k] == debtor && whom[k] == creditor) {
                    return k;
                }
            }
            return NONE;
        }

        boolean raise(int k, int more) {
            if (much[k] + more > Choir.MOST_DEBT) {
                return false;
            }
            much[k] += more;
            return true;
        }

        boolean join(int debtor, int creditor, int debt) {
            if (size >= MOST) {
                return false;
            }
            who[size] = debtor;
            whom[size] = creditor;
            much[size] = debt;
            size++;
            return true;
        }

        void leave(int k) {
            for (int i = k; i + 1 < size; i++) {
                who[i] = who[i + 1];
                whom[i] = whom[i + 1];
                much[i] = much[i + 1];
            }
            size--;
        }

        int countFor(int creditor) {
            int count = 0;
            for (int k = 0; k < size; k++) {
                if (whom[k] == creditor) {
                    count++;
                }
            }
            return count;
        }
    }

    /** SINGERS, their LINES and DEBTS; sets hold 1 for SINGER 0, 2 for SINGER 1 and so on. */
    private static final class Choir {
        static final int MOST_SINGERS = 8;
        static final int MOST_NOTES = 6;
        static final int MOST_DEBT = 999;
        static final int MOST_LENT = 99;
        static final int MOST_COINS = 9999;
        static final int MOST_TOLD_COINS = 999;
        static final int MOST_HUMS = 50;
        static final int LAST_SUNDAY = 9999;
        static final int SLOTS = MOST_SINGERS * MOST_NOTES;
        static final int BASS_LOWER = 12;

        final long[] names = new long[MOST_SINGERS];
        final int[] purses = new int[MOST_SINGERS];
        final int[] heirs = new int[MOST_SINGERS];
        final int[] lengths = new int[MOST_SINGERS];
        final int[] notes = new int[SLOTS];
        final int[] holders = new int[SLOTS];
        final int[] debts = new int[SLOTS];
        final Waiting waiting = new Waiting();
        int singers = 0;
        int basses = 0;
        int deaf = 0;
        int colds = 0;
        int dead = 0;
        int hums = 0;
        int sunday = 0;
        int paid = 0;

        static int slot(int singer, int note) {
            return singer * MOST_NOTES + note;
        }

        static boolean isIn(int set, int singer) {
            return (set >> singer & 1) != 0;
        }

        static int oneIfIn(int set, int singer) {
            return set >> singer & 1;
        }

        void makeEmpty() {
            Arrays.fill(holders, NONE);
            Arrays.fill(debts, 0);
            waiting.size = 0;
            singers = 0;
            basses = 0;
            deaf = 0;
            colds = 0;
            dead = 0;
            hums = 0;
            sunday = 0;
            paid = 0;
        }

        void takeFrom(Choir other) {
            System.arraycopy(other.names, 0, names, 0, MOST_SINGERS);
            System.arraycopy(other.purses, 0, purses, 0, MOST_SINGERS);
            System.arraycopy(other.heirs, 0, heirs, 0, MOST_SINGERS);
            System.arraycopy(other.lengths, 0, lengths, 0, MOST_SINGERS);
            System.arraycopy(other.notes, 0, notes, 0, SLOTS);
            System.arraycopy(other.holders, 0, holders, 0, SLOTS);
            System.arraycopy(other.debts, 0, debts, 0, SLOTS);
            waiting.takeFrom(other.waiting);
            singers = other.singers;
            basses = other.basses;
            deaf = other.deaf;
            colds = other.colds;
            dead = other.dead;
            hums = other.hums;
            sunday = other.sunday;
            paid = other.paid;
        }

        int addSinger(long newName, int coins) {
            int s = singers;
            names[s] = newName;
            purses[s] = coins;
            heirs[s] = NONE;
            lengths[s] = 0;
            addNote(s, 12);
            addNote(s, 14);
            addNote(s, 16);
            singers++;
            return s;
        }

        void addNote(int s, int trueNote) {
            notes[slot(s, lengths[s])] = trueNote;
            lengths[s]++;
        }

        int find(long soughtName) {
            for (int s = 0; s < singers; s++) {
                if (names[s] == soughtName) {
                    return s;
                }
            }
            return NONE;
        }

        boolean knows(int s) {
            return s >= 0 && s < singers;
        }

        boolean lives(int s) {
            return s >= 0 && s < singers && (dead >> s & 1) == 0;
        }

        boolean areTwo(int a, int b) {
            return lives(a) && lives(b) && a != b;
        }

        boolean hasNote(int s, int note) {
            return note >= 0 && note < lengths[s];
        }

        int livingCount() {
            return singers - Integer.bitCount(dead);
        }

        /** The k-th SINGER that is not DEAD. */
        int livingAt(int k) {
            int left = k;
            for (int s = 0; s < singers; s++) {
                if (lives(s)) {
                    if (left == 0) {
                        return s;
                    }
                    left--;
                }
            }
            return NONE;
        }

        /** Where a DEBTOR's NOTE is; with NONE as the DEBTOR the first FREE one. */
        int slotOf(int debtor, int creditor) {
            int start = creditor * MOST_NOTES;
            int end = start + lengths[creditor];
            for (int i = start; i < end; i++) {
                if (holders[i] == debtor) {
                    return i;
                }
            }
            return NONE;
        }

        int freeNotes(int s) {
            int count = 0;
            for (int note = 0; note < lengths[s]; note++) {
                if (holders[slot(s, note)] == NONE) {
                    count++;
                }
            }
            return count;
        }

        int sungAt(int s, int note) {
            int i = slot(s, note);
            return notes[i] + debts[i] - (isIn(basses, s) ? BASS_LOWER : 0);
        }

        int debtAtNote(int debtor, int creditor) {
            int i = slotOf(debtor, creditor);
            return i == NONE ? 0 : debts[i];
        }

        int owedBetween(int debtor, int creditor) {
            int k = waiting.placeOf(debtor, creditor);
            return debtAtNote(debtor, creditor) + (k == NONE ? 0 : waiting.much[k]);
        }

        int owesInAll(int s) {
            int sum = 0;
            for (int i = 0; i < SLOTS; i++) {
                if (holders[i] == s) {
                    sum += debts[i];
                }
            }
            for (int k = 0; k < waiting.size; k++) {
                if (waiting.who[k] == s) {
                    sum += waiting.much[k];
                }
            }
            return sum;
        }

        int isOwedInAll(int s) {
            int sum = 0;
            for (int note = 0; note < lengths[s]; note++) {
                sum += debts[slot(s, note)];
            }
            for (int k = 0; k < waiting.size; k++) {
                if (waiting.whom[k] == s) {
                    sum += waiting.much[k];
                }
            }
            return sum;
        }

        int balanceOf(int s) {
            return isOwedInAll(s) - owesInAll(s);
        }

        int lacks(int s) {
            return Math.max(0, -(purses[s] + balanceOf(s)));
        }

        int debtsAtNotes() {
            int count = 0;
            for (int i = 0; i < SLOTS; i++) {
                if (debts[i] > 0) {
                    count++;
                }
            }
            return count;
        }

        int allOwed() {
            return allOwedIn(0);
        }

        int allOwedIn(int sundays) {
            int sum = 0;
            for (int s = 0; s < singers; s++) {
                int lineSundays = isIn(deaf, s) ? 0 : sundays;
                for (int note = 0; note < lengths[s]; note++) {
                    sum += grownIn(debts[slot(s, note)], lineSundays);
                }
            }
            for (int k = 0; k < waiting.size; k++) {
                sum += waiting.much[k];
            }
            return sum;
        }

        int allCoins() {
            int sum = 0;
            for (int s = 0; s < singers; s++) {
                sum += purses[s];
            }
            return sum;
        }

        int grown(int debt) {
            if (debt == 0 || hums == 0) {
                return debt;
            }
            return Math.min(MOST_DEBT, debt + Math.max(1, debt * hums / 100));
        }

        int grownIn(int debt, int sundays) {
            int now = debt;
            for (int w = 0; w < sundays; w++) {
                int next = grown(now);
                if (next == now) {
                    break;
                }
                now = next;
            }
            return now;
        }

        /** By words of LEND, without coins; changes nothing if it can't be. */
        boolean owe(int debtor, int creditor, int much) {
            int i = slotOf(debtor, creditor);
            if (i != NONE) {
                if (debts[i] + much > MOST_DEBT) {
                    return false;
                }
                debts[i] += much;
                return true;
            }
            int k = waiting.placeOf(debtor, creditor);
            if (k != NONE) {
                return waiting.raise(k, much);
            }
            i = slotOf(NONE, creditor);
            if (i == NONE) {
                return waiting.join(debtor, creditor, much);
            }
            holders[i] = debtor;
            debts[i] = much;
            return true;
        }

        boolean lendCoins(int from, int to, int n) {
            if (!areTwo(from, to) || isIn(colds, to) || purses[from] < n || purses[to] + n > MOST_COINS) {
                return false;
            }
            if (!owe(to, from, n)) {
                return false;
            }
            purses[from] -= n;
            purses[to] += n;
            return true;
        }

        boolean payCoins(int from, int to, int n) {
            if (!areTwo(from, to)) {
                return false;
            }
            int i = slotOf(from, to);
            if (i == NONE || debts[i] < n || purses[from] < n || purses[to] + n > MOST_COINS) {
                return false;
            }
            handOver(from, to, n);
            takeOff(i, n);
            settle();
            return true;
        }

        void handOver(int from, int to, int n) {
            purses[from] -= n;
            purses[to] += n;
            paid += n;
        }

        void takeOff(int i, int n) {
            debts[i] -= n;
            if (debts[i] == 0) {
                holders[i] = NONE;
            }
        }

        void settle() {
            int k = 0;
            // a turn either goes past one that WAITS or takes it away
            for (int turn = 0; turn < Waiting.MOST && k < waiting.size; turn++) {
                int i = slotOf(NONE, waiting.whom[k]);
                if (i == NONE) {
                    k++;
                } else {
                    holders[i] = waiting.who[k];
                    debts[i] = waiting.much[k];
                    waiting.leave(k);
                }
            }
        }

        int netTwo(int a, int b) {
            if (!areTwo(a, b)) {
                return 0;
            }
            int i = slotOf(a, b);
            int j = slotOf(b, a);
            if (i == NONE || j == NONE) {
                return 0;
            }
            int off = Math.min(debts[i], debts[j]);
            takeOff(i, off);
            takeOff(j, off);
            settle();
            return off;
        }

        int netAll() {
            int off = 0;
            for (int a = 0; a < singers; a++) {
                for (int b = a + 1; b < singers; b++) {
                    off += netTwo(a, b);
                }
            }
            return off;
        }

        int clearRing(int[] ring, int length) {
            int off = MOST_DEBT;
            for (int k = 0; k < length; k++) {
                off = Math.min(off, debtAtNote(ring[k], ring[(k + 1) % length]));
            }
            for (int k = 0; k < length; k++) {
                int i = slotOf(ring[k], ring[(k + 1) % length]);
                if (i != NONE) {
                    takeOff(i, off);
                }
            }
            settle();
            return off;
        }

        boolean keepSunday() {
            if (sunday >= LAST_SUNDAY) {
                return false;
            }
            sunday++;
            for (int s = 0; s < singers; s++) {
                for (int note = 0; note < lengths[s] && !isIn(deaf, s); note++) {
                    int i = slot(s, note);
                    debts[i] = grown(debts[i]);
                }
            }
            return true;
        }

        /** How many coins were PAID, or NONE if it has a COLD, or is DEAD. */
        int catchCold(int s) {
            if (!lives(s) || isIn(colds, s)) {
                return NONE;
            }
            int ahead = paid;
            for (int other = 0; other < singers; other++) {
                int i = slotOf(s, other);
                if (i != NONE) {
                    int n = Math.min(debts[i], Math.min(purses[s], MOST_COINS - purses[other]));
                    handOver(s, other, n);
                    takeOff(i, n);
                }
            }
            colds |= 1 << s;
            settle();
            return paid - ahead;
        }

        boolean bury(int s) {
            if (!lives(s)) {
                return false;
            }
            int heir = lives(heirs[s]) ? heirs[s] : NONE;
            if (heir != NONE) {
                purses[heir] = Math.min(MOST_COINS, purses[heir] + purses[s]);
            }
            purses[s] = 0;
            passOnHeld(s, heir);
            passOnWaiting(s, heir);
            forgetLine(s);
            colds &= ~(1 << s);
            dead |= 1 << s;
            settle();
            return true;
        }

        void passOnHeld(int s, int heir) {
            for (int other = 0; other < singers; other++) {
                int i = slotOf(s, other);
                if (i != NONE) {
                    int much = debts[i];
                    takeOff(i, much);
                    if (heir != NONE && heir != other) {
                        owe(heir, other, much);
                    }
                }
            }
        }

        void passOnWaiting(int s, int heir) {
            int k = 0;
            // what the HEIR joins with stands last and is not of s, so MOST turns reach all
            for (int turn = 0; turn < Waiting.MOST && k < waiting.size; turn++) {
                if (waiting.who[k] == s) {
                    int other = waiting.whom[k];
                    int much = waiting.much[k];
                    waiting.leave(k);
                    if (heir != NONE && heir != other) {
                        owe(heir, other, much);
                    }
                } else {
                    k++;
                }
            }
        }

        void forgetLine(int s) {
            for (int note = 0; note < lengths[s]; note++) {
                takeOff(slot(s, note), debts[slot(s, note)]);
            }
            int k = 0;
            for (int turn = 0; turn < Waiting.MOST && k < waiting.size; turn++) {
                if (waiting.whom[k] == s) {
                    waiting.leave(k);
                } else {
                    k++;
                }
            }
        }
    }

    /** What is asked of all DEBTS at once: sums, rows and rounds of them. */
    private static final class Ties {
        static final int SETS = 1 << Choir.MOST_SINGERS;
        static final int LEAST_ROUND = 3;

        final int[] balances = new int[Choir.MOST_SINGERS];
        final int[] owesByNote = new int[Choir.MOST_SINGERS];
        final int[] owesAtAll = new int[Choir.MOST_SINGERS];
        final int[] path = new int[Choir.MOST_SINGERS];
        final int[] sums = new int[SETS];
        final int[] bests = new int[SETS];
        int singers = 0;
        int living = 0;

        void look(Choir choir) {
            singers = choir.singers;
            living = (1 << singers) - 1 & ~choir.dead;
            for (int a = 0; a < singers; a++) {
                balances[a] = choir.balanceOf(a);
                owesByNote[a] = 0;
                owesAtAll[a] = 0;
                for (int b = 0; b < singers; b++) {
                    if (a != b && choir.debtAtNote(a, b) > 0) {
                        owesByNote[a] |= 1 << b;
                    }
                    if (a != b && choir.owedBetween(a, b) > 0) {
                        owesAtAll[a] |= 1 << b;
                    }
                }
            }
        }

        int uneven() {
            int set = 0;
            for (int s = 0; s < singers; s++) {
                if (balances[s] != 0) {
                    set |= 1 << s;
                }
            }
            return set;
        }

        int unevenCount() {
            return Integer.bitCount(uneven());
        }

        /** Put one by one in the best order, as many sums on the way are 0 as there are parts. */
        int mostParts() {
            int all = uneven();
            sums[0] = 0;
            bests[0] = 0;
            for (int set = 1; set <= all; set++) {
                if ((set & ~all) == 0) {
                    addUp(set);
                }
            }
            return bests[all];
        }

        void addUp(int set) {
            int best = 0;
            int sum = 0;
            for (int s = 0; s < singers; s++) {
                if (Choir.isIn(set, s)) {
                    int less = set & ~(1 << s);
                    sum = sums[less] + balances[s];
                    best = Math.max(best, bests[less]);
                }
            }
            sums[set] = sum;
            bests[set] = sum == 0 ? best + 1 : best;
        }

        /** Leaves the fewest SINGERS of a ROUND in path: how many, 0 without one. */
        int findRound() {
            for (int length = LEAST_ROUND; length <= singers; length++) {
                for (int s = 0; s < singers; s++) {
                    path[0] = s;
                    if (closes(this, 1, length, 1 << s)) {
                        return length;
                    }
                }
            }
            return 0;
        }

        /** Whether a path of so many SINGERS can be led on to one of that length whose last owes its first. */
        private static boolean closes(Ties ties, int depth, int length, int used) {
            int next = ties.owesByNote[ties.path[depth - 1]];
            if (depth >= length) {
                return Choir.isIn(next, ties.path[0]);
            }
            for (int s = ties.path[0] + 1; s < ties.singers; s++) {
                if (Choir.isIn(next & ~used, s)) {
                    ties.path[depth] = s;
                    if (closes(ties, depth + 1, length, used | 1 << s)) {
                        return true;
                    }
                }
            }
            return false;
        }

        int leastAsked() {
            int best = (1 << singers) - 1;
            for (int set = best - 1; set >= 0; set--) {
                if (Integer.bitCount(set) <= Integer.bitCount(best) && isInEach(set)) {
                    best = set;
                }
            }
            return best;
        }

        boolean isInEach(int set) {
            for (int s = 0; s < singers; s++) {
                if (!Choir.isIn(set, s) && (owesAtAll[s] & ~set) != 0) {
                    return false;
                }
            }
            return true;
        }

        /** For each set of SINGERS, bests has those with whom a row of just that set can end. */
        int longestRow() {
            Arrays.fill(bests, 0);
            for (int s = 0; s < singers; s++) {
                bests[1 << s] = living & 1 << s;
            }
            int longest = 0;
            for (int set = 1; set <= living; set++) {
                if (bests[set] != 0) {
                    longest = Math.max(longest, Integer.bitCount(set));
                    lengthen(set);
                }
            }
            return longest;
        }

        void lengthen(int set) {
            for (int last = 0; last < singers; last++) {
                if (Choir.isIn(bests[set], last)) {
                    int next = owesByNote[last] & ~set;
                    for (int s = 0; s < singers; s++) {
                        if (Choir.isIn(next, s)) {
                            bests[set | 1 << s] |= 1 << s;
                        }
                    }
                }
            }
        }

        int reachedFrom(int singer) {
            int reached = 1 << singer;
            for (int turn = 0; turn < singers; turn++) {
                for (int s = 0; s < singers; s++) {
                    if (Choir.isIn(reached, s)) {
                        reached |= owesByNote[s];
                    }
                }
            }
            return reached & ~(1 << singer);
        }
    }

    /** The TOKENS of a text, one at a time, and the first FAULT that was found. */
    private static final class Tokens {
        static final int END_OF_TEXT = 0;
        static final int WORD = 1;
        static final int NUMBER = 2;
        static final int SIGN = 3;
        static final int NO_TOKEN = 4;

        static final int SINGER = 0;
        static final int PURSE = 1;
        static final int BASS = 2;
        static final int COLD = 3;
        static final int DEAF = 4;
        static final int LINE = 5;
        static final int OWES = 6;
        static final int HEIR = 7;
        static final int HUMS = 8;
        static final int LEND = 9;
        static final int TO = 10;
        static final int PAY = 11;
        static final int SUNDAY = 12;
        static final int DIE = 13;
        static final int CHORD = 14;
        static final int ANY = 15;
        static final int WHEN = 16;
        static final int DEBT = 17;
        static final int STILL = 18;
        static final int LOOP = 19;
        static final int END = 20;
        static final int STOP = 21;
        /** In the order of their numbers above, a blank behind each. */
        static final String KEYWORDS = "singer purse bass cold deaf line owes heir hums lend to pay sunday die chord any when debt still loop end stop ";

        static final int NO_BEGINNING = 1;
        static final int CANT_STAND = 2;
        static final int WRONG_NAME = 3;
        static final int WRONG_NUMBER = 4;
        static final int TWICE = 5;
        static final int NO_ROOM = 6;
        static final int TOO_DEEP = 7;

        /** Letters count from 1, so that no two WORDS of up to 8 of them make the same long. */
        static final int AHEAD_OF_A = 'a' - 1;
        static final int LETTER_BASE = 27;
        static final int MOST_LETTERS = 8;
        static final int MOST_DIGITS = 4;

        byte[] text = new byte[0];
        int length = 0;
        int at = 0;
        int kind = END_OF_TEXT;
        int place = 0;
        int number = 0;
        int sign = 0;
        int letters = 0;
        int keyword = NONE;
        long word = 0;
        int fault = 0;

        void start(byte[] newText, int newLength) {
            text = newText;
            length = Math.min(newLength, newText.length);
            at = 0;
            fault = 0;
            advance();
        }

        void advance() {
            while (at < length && (text[at] == ' ' || text[at] == '\n')) {
                at++;
            }
            place = at;
            kind = at < length ? kindOf(text[at]) : END_OF_TEXT;
            keyword = NONE;
            switch (kind) {
                case WORD:
                    readWord();
                    keyword = letters > MOST_LETTERS ? NONE : keywordOf(word);
                    break;
                case NUMBER:
                    readNumber();
                    break;
                case SIGN:
                    sign = text[at];
                    at++;
                    break;
                default:
                    break;
            }
        }

        static int kindOf(int first) {
            if (first >= 'a' && first <= 'z') {
                return WORD;
            }
            if (first >= '0' && first <= '9') {
                return NUMBER;
            }
            return first == ';' || first == '<' || first == '>' || first == '=' ? SIGN : NO_TOKEN;
        }

        void readWord() {
            word = 0;
            letters = 0;
            while (at < length && text[at] >= 'a' && text[at] <= 'z') {
                if (letters < MOST_LETTERS) {
                    word = word * LETTER_BASE + text[at] - AHEAD_OF_A;
                }
                letters++;
                at++;
            }
        }

        void readNumber() {
            int digits = 0;
            number = 0;
            while (at < length && text[at] >= '0' && text[at] <= '9') {
                if (digits < MOST_DIGITS) {
                    number = number * 10 + text[at] - '0';
                }
                digits++;
                at++;
            }
            if (digits > MOST_DIGITS) {
                kind = NO_TOKEN;
            }
        }

        static int keywordOf(long sought) {
            int index = 0;
            long gathered = 0;
            for (int i = 0; i < KEYWORDS.length(); i++) {
                char c = KEYWORDS.charAt(i);
                if (c != ' ') {
                    gathered = gathered * LETTER_BASE + c - AHEAD_OF_A;
                } else if (gathered == sought) {
                    return index;
                } else {
                    index++;
                    gathered = 0;
                }
            }
            return NONE;
        }

        /** Of one TOKEN the least kind of FAULT counts, and none is below NO_BEGINNING. */
        boolean refuse(int why) {
            fault = kind == NO_TOKEN ? NO_BEGINNING : why;
            return false;
        }

        boolean standsSign(int sought) {
            return kind == SIGN && sign == sought || refuse(CANT_STAND);
        }

        boolean takeSign(int sought) {
            advance();
            return standsSign(sought);
        }

        boolean takeCompares() {
            advance();
            return kind == SIGN && sign != ';' || refuse(CANT_STAND);
        }

        boolean takeKeyword(int sought) {
            advance();
            return keyword == sought || refuse(CANT_STAND);
        }

        boolean standsNumber(int least, int most) {
            if (kind != NUMBER) {
                return refuse(CANT_STAND);
            }
            return number >= least && number <= most || refuse(WRONG_NUMBER);
        }

        boolean takeNumber(int least, int most) {
            advance();
            return standsNumber(least, most);
        }

        boolean standsName() {
            return kind == WORD && letters <= MOST_LETTERS && keyword == NONE || refuse(CANT_STAND);
        }

        /** The SINGER whose NAME comes next, or NONE with a FAULT: that one must not come, if it is one. */
        int takeSinger(Choir choir, int unlike) {
            advance();
            if (!standsName()) {
                return NONE;
            }
            int s = choir.find(word);
            if (s == NONE) {
                refuse(WRONG_NAME);
            } else if (s == unlike) {
                refuse(TWICE);
                s = NONE;
            }
            return s;
        }
    }

    /** Makes a CHOIR of a text. */
    private static final class ChoirReader {
        static final int VOICES = 3;
        static final int HIGHEST_NOTE = 24;

        final Tokens tokens = new Tokens();
        boolean humsTold = false;

        boolean readAll(byte[] tape, int n, Choir choir) {
            choir.makeEmpty();
            humsTold = false;
            tokens.start(tape, n);
            // a PART takes some bytes, so there are fewer than n
            for (int part = 0; part <= n && tokens.kind != Tokens.END_OF_TEXT; part++) {
                boolean fine;
                switch (tokens.keyword) {
                    case Tokens.SINGER: fine = readSinger(choir); break;
                    case Tokens.OWES: fine = readOwes(choir); break;
                    case Tokens.HEIR: fine = readHeir(choir); break;
                    case Tokens.HUMS: fine = readHums(choir); break;
                    default: fine = tokens.refuse(Tokens.CANT_STAND); break;
                }
                if (!fine) {
                    return false;
                }
                tokens.advance();
            }
            return true;
        }

        boolean readSinger(Choir choir) {
            if (choir.singers >= Choir.MOST_SINGERS) {
                return tokens.refuse(Tokens.NO_ROOM);
            }
            tokens.advance();
            if (!tokens.standsName()) {
                return false;
            }
            if (choir.find(tokens.word) != NONE) {
                return tokens.refuse(Tokens.WRONG_NAME);
            }
            long newName = tokens.word;
            if (!tokens.takeKeyword(Tokens.PURSE) || !tokens.takeNumber(0, Choir.MOST_TOLD_COINS)) {
                return false;
            }
            int s = choir.addSinger(newName, tokens.number);
            tokens.advance();
            if (!readVoices(choir, s)) {
                return false;
            }
            if (tokens.keyword == Tokens.LINE && !readLine(choir, s)) {
                return false;
            }
            return tokens.standsSign(';');
        }

        boolean readVoices(Choir choir, int s) {
            // one turn more than there are VOICES, for one that is told again
            for (int turn = 0; turn <= VOICES; turn++) {
                if (!isVoice(tokens.keyword)) {
                    return true;
                }
                if (!addVoice(choir, s)) {
                    return tokens.refuse(Tokens.TWICE);
                }
                tokens.advance();
            }
            return true;
        }

        static boolean isVoice(int keyword) {
            return keyword == Tokens.BASS || keyword == Tokens.COLD || keyword == Tokens.DEAF;
        }

        boolean addVoice(Choir choir, int s) {
            int one = 1 << s;
            int had;
            if (tokens.keyword == Tokens.BASS) {
                had = choir.basses;
                choir.basses |= one;
            } else if (tokens.keyword == Tokens.COLD) {
                had = choir.colds;
                choir.colds |= one;
            } else {
                had = choir.deaf;
                choir.deaf |= one;
            }
            return (had & one) == 0;
        }

        boolean readLine(Choir choir, int s) {
            choir.lengths[s] = 0;
            tokens.advance();
            // one turn more than there may be NOTES, for a seventh
            for (int turn = 0; turn <= Choir.MOST_NOTES; turn++) {
                if (turn > 0 && tokens.kind != Tokens.NUMBER) {
                    return true;
                }
                if (!tokens.standsNumber(0, HIGHEST_NOTE)) {
                    return false;
                }
                if (turn == Choir.MOST_NOTES) {
                    return tokens.refuse(Tokens.NO_ROOM);
                }
                choir.addNote(s, tokens.number);
                tokens.advance();
            }
            return true;
        }

        boolean readOwes(Choir choir) {
            int debtor = tokens.takeSinger(choir, NONE);
            if (debtor == NONE) {
                return false;
            }
            int creditor = tokens.takeSinger(choir, debtor);
            if (creditor == NONE || !tokens.takeNumber(1, Choir.MOST_LENT)) {
                return false;
            }
            if (!choir.owe(debtor, creditor, tokens.number)) {
                return tokens.refuse(Tokens.NO_ROOM);
            }
            return tokens.takeSign(';');
        }

        boolean readHeir(Choir choir) {
            int s = tokens.takeSinger(choir, NONE);
            if (s == NONE) {
                return false;
            }
            int heir = tokens.takeSinger(choir, s);
            if (heir == NONE) {
                return false;
            }
            choir.heirs[s] = heir;
            return tokens.takeSign(';');
        }

        boolean readHums(Choir choir) {
            if (humsTold) {
                return tokens.refuse(Tokens.TWICE);
            }
            humsTold = true;
            if (!tokens.takeNumber(0, Choir.MOST_HUMS)) {
                return false;
            }
            choir.hums = tokens.number;
            return tokens.takeSign(';');
        }
    }

    /** STEPS and their ends, one behind the other; kinds are keywords of Tokens, a when's that of its TEST. */
    private static final class Years {
        static final int MOST_STEPS = 30;
        static final int SPOTS = 2 * MOST_STEPS;

        final int[] kinds = new int[SPOTS];
        final int[] firsts = new int[SPOTS];
        final int[] seconds = new int[SPOTS];
        final int[] numbers = new int[SPOTS];
        final int[] signs = new int[SPOTS];
        /** Of a when or loop where its end is, of an end where that began. */
        final int[] partners = new int[SPOTS];
        int size = 0;
        int steps = 0;
        boolean told = false;

        void forget() {
            size = 0;
            steps = 0;
            told = false;
        }

        void takeFrom(Years other) {
            System.arraycopy(other.kinds, 0, kinds, 0, SPOTS);
            System.arraycopy(other.firsts, 0, firsts, 0, SPOTS);
            System.arraycopy(other.seconds, 0, seconds, 0, SPOTS);
            System.arraycopy(other.numbers, 0, numbers, 0, SPOTS);
            System.arraycopy(other.signs, 0, signs, 0, SPOTS);
            System.arraycopy(other.partners, 0, partners, 0, SPOTS);
            size = other.size;
            steps = other.steps;
            told = other.told;
        }

        int addStep(int kind) {
            kinds[size] = kind;
            firsts[size] = NONE;
            seconds[size] = NONE;
            numbers[size] = 0;
            steps++;
            size++;
            return size - 1;
        }

        void addEnd(int beginning) {
            kinds[size] = Tokens.END;
            partners[size] = beginning;
            partners[beginning] = size;
            size++;
        }
    }

    /** Makes YEARS of a text. */
    private static final class YearsReader {
        static final int DEEPEST = 3;
        static final int MOST_LOOPS = 99;

        final Tokens tokens = new Tokens();
        final int[] open = new int[DEEPEST];
        int depth = 0;

        boolean readAll(byte[] tape, int n, Choir choir, Years years) {
            years.forget();
            depth = 0;
            tokens.start(tape, n);
            // a STEP, an end take some bytes, so there are fewer than n
            for (int turn = 0; turn <= n && tokens.kind != Tokens.END_OF_TEXT; turn++) {
                boolean fine = tokens.keyword == Tokens.END ? readEnd(years) : readStep(choir, years);
                if (!fine) {
                    return false;
                }
                tokens.advance();
            }
            years.told = true;
            return depth == 0 || tokens.refuse(Tokens.CANT_STAND);
        }

        boolean readEnd(Years years) {
            if (depth == 0) {
                return tokens.refuse(Tokens.CANT_STAND);
            }
            depth--;
            years.addEnd(open[depth]);
            return tokens.takeSign(';');
        }

        boolean readStep(Choir choir, Years years) {
            int kind = tokens.keyword;
            if (!beginsStep(kind)) {
                return tokens.refuse(Tokens.CANT_STAND);
            }
            if (years.steps >= Years.MOST_STEPS) {
                return tokens.refuse(Tokens.NO_ROOM);
            }
            boolean opens = kind == Tokens.WHEN || kind == Tokens.LOOP;
            if (opens && depth >= DEEPEST) {
                return tokens.refuse(Tokens.TOO_DEEP);
            }
            int spot = years.addStep(kind);
            if (opens) {
                open[depth] = spot;
                depth++;
            }
            if (kind == Tokens.WHEN && !readTestWord(years, spot)) {
                return false;
            }
            return readTail(choir, years, spot) && tokens.takeSign(';');
        }

        static boolean beginsStep(int keyword) {
            switch (keyword) {
                case Tokens.LEND:
                case Tokens.PAY:
                case Tokens.SUNDAY:
                case Tokens.COLD:
                case Tokens.DIE:
                case Tokens.CHORD:
                case Tokens.ANY:
                case Tokens.WHEN:
                case Tokens.LOOP:
                case Tokens.STOP:
                    return true;
                default:
                    return false;
            }
        }

        boolean readTestWord(Years years, int spot) {
            tokens.advance();
            int test = tokens.keyword;
            years.kinds[spot] = test;
            boolean fine = test == Tokens.DEBT || test == Tokens.PURSE || test == Tokens.STILL;
            return fine || tokens.refuse(Tokens.CANT_STAND);
        }

        /** What stands between a kind's WORD and its ; : a NAME, to, another NAME, a COMPARES, a NUMBER. */
        static String tailOf(int kind) {
            switch (kind) {
                case Tokens.LEND:
                case Tokens.PAY: return "atbn";
                case Tokens.DEBT: return "atbcn";
                case Tokens.PURSE: return "acn";
                case Tokens.CHORD: return "ab";
                case Tokens.COLD:
                case Tokens.DIE:
                case Tokens.STILL: return "a";
                case Tokens.LOOP: return "n";
                default: return "";
            }
        }

        boolean readTail(Choir choir, Years years, int spot) {
            String tail = tailOf(years.kinds[spot]);
            boolean fine = true;
            for (int i = 0; i < tail.length() && fine; i++) {
                int part = tail.charAt(i);
                switch (part) {
                    case 'a':
                        years.firsts[spot] = tokens.takeSinger(choir, NONE);
                        fine = years.firsts[spot] != NONE;
                        break;
                    case 'b':
                        years.seconds[spot] = tokens.takeSinger(choir, NONE);
                        fine = years.seconds[spot] != NONE;
                        break;
                    case 't':
                        fine = tokens.takeKeyword(Tokens.TO);
                        break;
                    case 'c':
                        fine = tokens.takeCompares();
                        years.signs[spot] = tokens.sign;
                        break;
                    default:
                        fine = tokens.takeNumber(leastOf(years.kinds[spot]), mostOf(years.kinds[spot]));
                        years.numbers[spot] = tokens.number;
                        break;
                }
            }
            return fine;
        }

        static int leastOf(int kind) {
            return kind == Tokens.DEBT || kind == Tokens.PURSE ? 0 : 1;
        }

        static int mostOf(int kind) {
            switch (kind) {
                case Tokens.LEND: return Choir.MOST_LENT;
                case Tokens.LOOP: return MOST_LOOPS;
                case Tokens.PURSE: return Choir.MOST_COINS;
                default: return Choir.MOST_DEBT;
            }
        }
    }

    /** YEARS that are done to a CHOIR by a seed, and what came of it. */
    private static final class Life {
        static final int MOST_STEPS = 300;
        static final int MOST_ANY = 20;

        final int[] turnsLeft = new int[Years.SPOTS];
        boolean happened = false;
        int steps = 0;
        int missed = 0;
        int lent = 0;
        int paid = 0;
        int sundays = 0;
        int left = 0;
        int drawn = 0;

        void run(Years years, Choir choir, int seed) {
            happened = true;
            steps = 0;
            missed = 0;
            lent = 0;
            sundays = 0;
            left = 0;
            drawn = seed;
            int paidAhead = choir.paid;
            int at = 0;
            // between two STEPS a loop of none but its end may turn 99 times: far below a million
            for (int turn = 0; turn < 1000000 && at < years.size && left == 0; turn++) {
                if (years.kinds[at] == Tokens.END) {
                    at = behindEnd(years, at);
                } else if (steps >= MOST_STEPS) {
                    left = 1;
                } else {
                    steps++;
                    at = behindStep(choir, years, at);
                }
            }
            paid = choir.paid - paidAhead;
        }

        int behindEnd(Years years, int at) {
            int beginning = years.partners[at];
            if (years.kinds[beginning] == Tokens.LOOP && turnsLeft[beginning] > 0) {
                turnsLeft[beginning]--;
                return beginning + 1;
            }
            return at + 1;
        }

        int behindStep(Choir choir, Years years, int at) {
            int a = years.firsts[at];
            int b = years.seconds[at];
            int n = years.numbers[at];
            boolean done = true;
            switch (years.kinds[at]) {
                case Tokens.STOP:
                    return years.size;
                case Tokens.LOOP:
                    turnsLeft[at] = n - 1;
                    break;
                case Tokens.DEBT:
                case Tokens.PURSE:
                case Tokens.STILL:
                    return holds(choir, years, at) ? at + 1 : years.partners[at] + 1;
                case Tokens.LEND:
                    done = choir.lendCoins(a, b, n);
                    lent += done ? n : 0;
                    break;
                case Tokens.PAY:
                    done = choir.payCoins(a, b, n);
                    break;
                case Tokens.SUNDAY:
                    done = choir.keepSunday();
                    sundays += done ? 1 : 0;
                    break;
                case Tokens.COLD:
                    done = choir.catchCold(a) != NONE;
                    break;
                case Tokens.DIE:
                    done = choir.bury(a);
                    break;
                case Tokens.CHORD:
                    done = choir.netTwo(a, b) > 0;
                    break;
                default:
                    done = lendAny(choir);
                    break;
            }
            missed += done ? 0 : 1;
            return at + 1;
        }

        static boolean holds(Choir choir, Years years, int at) {
            int a = years.firsts[at];
            int b = years.seconds[at];
            int n = years.numbers[at];
            switch (years.kinds[at]) {
                case Tokens.DEBT:
                    return compares(a == b ? 0 : choir.owedBetween(a, b), years.signs[at], n);
                case Tokens.PURSE:
                    return compares(choir.purses[a], years.signs[at], n);
                default:
                    return choir.owesInAll(a) == 0 && choir.isOwedInAll(a) == 0;
            }
        }

        static boolean compares(int value, int sign, int n) {
            if (sign == '<') {
                return value < n;
            }
            return sign == '>' ? value > n : value == n;
        }

        boolean lendAny(Choir choir) {
            int many = choir.livingCount();
            if (many <= 0) {
                return false;
            }
            // the draws come in this order, whether it can be or not
            int from = choir.livingAt(draw(many));
            int to = choir.livingAt(draw(many));
            int n = draw(MOST_ANY) + 1;
            boolean done = choir.lendCoins(from, to, n);
            lent += done ? n : 0;
            return done;
        }

        int draw(int n) {
            drawn = (drawn * 2971 + 11173) % 65536;
            return n <= 0 ? 0 : drawn / 8 % n;
        }
    }

    /** CHOIRS with their YEARS as they were, the latest last. */
    private static final class Marks {
        static final int MOST = 3;

        final Choir[] choirs = new Choir[MOST];
        final Years[] yearsOf = new Years[MOST];
        int count = 0;

        Marks() {
            for (int i = 0; i < MOST; i++) {
                choirs[i] = new Choir();
                yearsOf[i] = new Years();
            }
        }

        void keep(Choir choir, Years years) {
            choirs[count].takeFrom(choir);
            yearsOf[count].takeFrom(years);
            count++;
        }

        void giveBack(Choir choir, Years years) {
            count--;
            choir.takeFrom(choirs[count]);
            years.takeFrom(yearsOf[count]);
        }
    }
}
