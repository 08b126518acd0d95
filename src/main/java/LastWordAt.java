import java.util.Arrays;

/** The last word at table: who spoke it, who inherits by it, and when it is best spoken. */
public final class LastWordAt {
    public static final int NONE = -1;

    private static final int REFUSED = -2;
    private static final int MOST_GUESTS = 8;
    private static final int MOST_LOG = 40;
    private static final int MOST_BOOK = 20;
    private static final int MOST_STEPS = 30;
    private static final int MOST_TEXTS = 4;
    private static final int MOST_BYTES = 300;
    private static final int MOST_CLAUSES = 24;
    private static final int LAST_MOMENT = 99;
    private static final int LAST_NIGHT = 999;
    private static final int FAR_MOMENT = 999;
    private static final int EVER = 1000000;
    private static final int LIMIT = 1000000;
    private static final int MOST_NUMBER = 9999;

    private static final int OLD_MAN = 8;
    private static final int WORD_KIND = 0;
    private static final int OH_KIND = 1;
    private static final int TOAST_KIND = 2;
    private static final int BYE_KIND = 3;
    private static final int OLD_KIND = 4;

    private static final int GUEST_BITS = 255;
    /** The least number that 1 to 8 heirs can all divide. */
    private static final int WHOLE = 840;
    private static final int MOST_NIGHTS = 6;
    private static final int MOST_AHEAD = 6;
    private static final int MOST_GAME = 5;

    // TOKENS; the words stand in the order of WORDS, the signs in the order of SIGNS.
    private static final String WORDS = "night moment wine rank hears kind words since guests has said heirs counts lag dies guest say oh toast bye ask pass send dinner or and not choose case to else end ";
    private static final String SIGNS = "<>=#+-*/():;";
    private static final int NIGHT = 0;
    private static final int MOMENT = 1;
    private static final int WINE = 2;
    private static final int RANK = 3;
    private static final int HEARS = 4;
    private static final int KIND = 5;
    private static final int WORDS_SO_FAR = 6;
    private static final int SINCE = 7;
    private static final int GUESTS_THERE = 8;
    private static final int HAS = 9;
    private static final int SAID = 10;
    private static final int HEIRS = 11;
    private static final int COUNTS = 12;
    private static final int LAG = 13;
    private static final int DIES = 14;
    private static final int GUEST = 15;
    private static final int SAY = 16;
    private static final int OH = 17;
    private static final int TOAST = 18;
    private static final int BYE = 19;
    private static final int ASK = 20;
    private static final int PASS = 21;
    private static final int SEND = 22;
    private static final int DINNER = 23;
    private static final int OR = 24;
    private static final int AND = 25;
    private static final int NOT = 26;
    private static final int CHOOSE = 27;
    private static final int CASE = 28;
    private static final int TO = 29;
    private static final int ELSE = 30;
    private static final int END = 31;
    private static final int STRANGE = 32;
    private static final int NUMBER = 33;
    private static final int LESS = 34;
    private static final int MORE = 35;
    private static final int SAME = 36;
    private static final int UNLIKE = 37;
    private static final int PLUS = 38;
    private static final int MINUS = 39;
    private static final int TIMES = 40;
    private static final int OVER = 41;
    private static final int OPEN = 42;
    private static final int CLOSE = 43;
    private static final int COLON = 44;
    private static final int SEMICOLON = 45;
    private static final int AT_MOST = 46;
    private static final int AT_LEAST = 47;
    private static final int FINISH = 48;
    private static final int BROKEN = 49;
    // What a law's code has beside TOKENS.
    private static final int NEGATE = 50;
    private static final int JUMP = 51;
    private static final int DROP = 52;
    private static final int STOP = 53;
    private static final int RANGE = 54;
    private static final int SKIP = 55;

    private final Table table = new Table();
    private final Table kept = new Table();
    private final Tape tape = new Tape();
    private final Reader reader = new Reader(tape);
    private final Laws laws = new Laws();
    private final Script[] scripts = new Script[MOST_TEXTS];
    private final int[] toasts = new int[MOST_GUESTS];

    public LastWordAt() {
        for (int i = 0; i < MOST_TEXTS; i++) {
            scripts[i] = new Script();
        }
    }

    // ---- what is told ----

    public int guest(int rank, int hears, int goes) {
        if (!within(rank, 0, 9) || !within(hears, 0, 9) || !within(goes, NONE, LAST_MOMENT)) {
            return NONE;
        }
        return table.guests.add(rank, hears, goes);
    }

    public int feed(int a, int b, int c, int d, int e) {
        if (!tape.hasRoom()) {
            return NONE;
        }
        tape.take(a);
        tape.take(b);
        tape.take(c);
        tape.take(d);
        tape.take(e);
        return tape.length;
    }

    public int end(int n) {
        if (!within(n, 0, tape.length)) {
            return NONE;
        }
        tape.length = n;
        return n;
    }

    public int text() {
        Script script = scriptAt(table.texts);
        if (script == null) {
            return NONE;
        }
        reader.read();
        tape.length = 0;
        if (reader.fault != 0) {
            return NONE;
        }
        script.copyFrom(reader.draft);
        table.texts++;
        return table.texts - 1;
    }

    public int fault(int what) {
        if (!reader.hasRead || !within(what, 0, 1)) {
            return NONE;
        }
        return what == 0 ? reader.fault : reader.place;
    }

    public boolean by(int text) {
        if (!within(text, NONE, table.texts - 1)) {
            return false;
        }
        table.ruling = text;
        return true;
    }

    // ---- STEPS ----

    public int say(int guest, int kind) {
        return within(kind, WORD_KIND, BYE_KIND) ? speak(guest, kind, true) : REFUSED;
    }

    public boolean ask() {
        if (table.evening.isFull()) {
            return false;
        }
        table.keepStep();
        table.evening.enter(OLD_MAN, OLD_KIND, table.evening.moment());
        return true;
    }

    public int pass(int n) {
        if (!within(n, 1, 60) || table.evening.moment() + n > LAST_MOMENT) {
            return NONE;
        }
        passAsCan(n);
        return table.evening.moment();
    }

    public boolean send(int guest) {
        if (!table.isThere(guest)) {
            return false;
        }
        table.keepStep();
        table.evening.letGo(1 << guest);
        return true;
    }

    public int dinner() {
        if (table.evening.night() >= LAST_NIGHT) {
            return NONE;
        }
        table.keepStep();
        return endDinner();
    }

    public int played(int text) {
        if (!within(text, 0, table.texts - 1)) {
            return REFUSED;
        }
        Script script = scriptAt(text);
        if (script == null) {
            return REFUSED;
        }
        for (int i = 0; i < script.clauses; i++) {
            if (!perform(script.clauseAt(i))) {
                return i;
            }
        }
        return NONE;
    }

    public int years(int seed, int n) {
        if (!within(seed, 0, 9999) || !within(n, 1, 40) || table.guests.count <= 0) {
            return NONE;
        }
        table.keepStep();
        table.evening.setDraw(seed * 3 + 61);
        int ended = 0;
        for (int i = 0; i < n; i++) {
            if (drawOne(table.evening.draw())) {
                ended++;
            }
            table.evening.setDraw((table.evening.draw() * 269 + 163) % 30259);
        }
        return ended;
    }

    public int undo() {
        if (!table.steps.takeBack(table.evening)) {
            return NONE;
        }
        return table.steps.count;
    }

    // ---- what is so ----

    public int of(int guest, int what) {
        if (!table.guests.knows(guest)) {
            return REFUSED;
        }
        switch (what) {
            case 0:
                return table.guests.rank[guest];
            case 1:
                return table.guests.hears[guest];
            case 2:
                return table.guests.goes[guest];
            case 3:
                return table.isThere(guest) ? 1 : 0;
            case 4:
                return table.evening.wordsOf(guest);
            case 5:
                return table.evening.countOf(guest, TOAST_KIND);
            case 6:
                return table.evening.lastOf(guest);
            case 7:
                return laws.whenFalls(table, scriptAt(table.ruling), guest, WORD_KIND);
            default:
                return REFUSED;
        }
    }

    public int holds(boolean later) {
        return later ? table.evening.wouldHold() : table.evening.holdNow();
    }

    public int log(int i, int what) {
        Evening evening = table.evening;
        if (i == NONE) {
            return evening.spoken();
        }
        if (!within(i, 0, evening.spoken() - 1)) {
            return REFUSED;
        }
        int entry = evening.entry(i);
        switch (what) {
            case 0:
                return Evening.momentOf(entry);
            case 1:
                return Evening.whoOf(entry);
            case 2:
                return Evening.kindOf(entry);
            case 3:
                return Evening.fallsOf(entry);
            default:
                return REFUSED;
        }
    }

    public int book(int i, int what) {
        Evening evening = table.evening;
        if (i == NONE) {
            return evening.written();
        }
        if (!within(i, 0, evening.written() - 1)) {
            return REFUSED;
        }
        int page = evening.page(i);
        switch (what) {
            case 0:
                return Evening.nightOf(page);
            case 1:
                return Evening.heirsOf(page);
            case 2:
                return Evening.diesOf(page);
            default:
                return REFUSED;
        }
    }

    // ---- what the book tells ----

    public long inherits(int guest, int n, boolean low) {
        if (!table.guests.knows(guest) || !isOfBook(n)) {
            return NONE;
        }
        return lowest(Estate.partOf(table.evening, n, guest), WHOLE * hundreds(n), low);
    }

    public long open(int n, boolean low) {
        if (!isOfBook(n)) {
            return NONE;
        }
        int nights = Estate.nightsHeld(table.evening, n);
        return lowest(hundreds(n) - Estate.dyingIn(table.evening, n, nights), hundreds(n), low);
    }

    public long thatNight(int set, int n, int i, boolean low) {
        if (set == 0 || !table.guests.knowsAll(set) || !isOfBook(n) || !within(i, 0, n - 1)) {
            return NONE;
        }
        int nights = Estate.nightsHeldBy(table.evening, n, set);
        long inAll = Estate.dyingIn(table.evening, n, nights);
        if (inAll <= 0) {
            return NONE;
        }
        return lowest(Estate.dyingIn(table.evening, n, nights & 1 << i), inAll, low);
    }

    public int tally(int guest, boolean alone) {
        if (!table.guests.knows(guest)) {
            return NONE;
        }
        return Estate.nightsOf(table.evening, 1 << guest, alone);
    }

    public int longest(boolean set) {
        return set ? Estate.longestSet(table.evening) : Estate.longestRun(table.evening);
    }

    public int which(int set) {
        if (!table.guests.knowsAll(set)) {
            return NONE;
        }
        return Estate.nightsHeldBy(table.evening, table.evening.written(), set);
    }

    public int meanDies(boolean low) {
        int written = table.evening.written();
        if (written <= 0) {
            return NONE;
        }
        int sum = 0;
        for (int i = 0; i < written; i++) {
            sum += Evening.diesOf(table.evening.page(i));
        }
        return (int) lowest(sum, written, low);
    }

    // ---- what the log tells ----

    public int whispered(int moment, int set) {
        if (!within(moment, 0, FAR_MOMENT) || !table.guests.knowsAll(set)) {
            return NONE;
        }
        int standing = table.evening.standing(EVER);
        int found = 0;
        for (int g = 0; g < table.guests.count; g++) {
            if (holders(joined(standing, moment, 1 << g)) == set) {
                found |= 1 << g;
            }
        }
        return found;
    }

    public int twoWhispered(int first, int second, int set, int i) {
        if (!within(first, 0, FAR_MOMENT) || !within(second, 0, FAR_MOMENT) || !table.guests.knowsAll(set)) {
            return NONE;
        }
        int standing = table.evening.standing(EVER);
        int found = 0;
        for (int low = 0; low < table.guests.count; low++) {
            for (int high = low + 1; high < table.guests.count; high++) {
                int one = joined(joined(standing, first, 1 << low), second, 1 << high);
                int other = joined(joined(standing, first, 1 << high), second, 1 << low);
                if (holders(one) == set || holders(other) == set) {
                    if (found == i) {
                        return 8 * low + high;
                    }
                    found++;
                }
            }
        }
        return i == NONE ? found : NONE;
    }

    public int ifAsked(int moment) {
        if (!within(moment, 0, FAR_MOMENT)) {
            return NONE;
        }
        return holders(joined(table.evening.standing(EVER), moment, 0));
    }

    public int silence() {
        int moment = table.evening.moment();
        int latest = latestMoment(table.evening.standing(moment));
        return moment - latest;
    }

    public int byRank(int i) {
        for (int g = 0; g < table.guests.count; g++) {
            if (table.isThere(g) && aheadByRank(g) == i) {
                return g;
            }
        }
        return NONE;
    }

    public int told(int guest, int kind) {
        if (!table.guests.knows(guest) || !within(kind, WORD_KIND, BYE_KIND)) {
            return NONE;
        }
        return table.evening.countOf(guest, kind);
    }

    public int held(int guest) {
        return table.guests.knows(guest) ? table.evening.momentsHeld(1 << guest) : NONE;
    }

    public int stays(int moment) {
        int now = table.evening.moment();
        if (!within(moment, now, LAST_MOMENT)) {
            return NONE;
        }
        int staying = table.there();
        for (int g = 0; g < table.guests.count; g++) {
            if (within(table.guests.goes[g], now, moment - 1)) {
                staying &= ~(1 << g);
            }
        }
        return staying;
    }

    public int provoked(int guest, int moment) {
        if (!table.guests.knows(guest) || !within(moment, 0, LAST_MOMENT)) {
            return NONE;
        }
        for (int g = 0; g < table.guests.count; g++) {
            if (g != guest && holders(table.evening.standingWithout(g, moment)) == 1 << guest) {
                return g;
            }
        }
        return NONE;
    }

    public int unsaid(int guest) {
        return table.guests.knows(guest) ? table.evening.inTheWayOf(guest) : NONE;
    }

    public int nextToast() {
        countToasts();
        return nextByToasts();
    }

    public int round(int n, int i) {
        if (!within(n, 1, 20) || !within(i, 0, n - 1)) {
            return NONE;
        }
        countToasts();
        for (int given = 0; given < i; given++) {
            int next = nextByToasts();
            if (!table.guests.knows(next)) {
                return NONE;
            }
            toasts[next]++;
        }
        return nextByToasts();
    }

    // ---- what is to come ----

    public boolean odds(int list, int moment, int p) {
        if (!within(list, 0, 1) || !within(moment, 0, MOST_AHEAD - 1) || !within(p, 0, 100)) {
            return false;
        }
        table.chances.dies[list][moment] = p;
        return true;
    }

    public boolean falls(int moment, int set) {
        if (!within(moment, 0, MOST_AHEAD - 1) || !table.guests.knowsAll(set)) {
            return false;
        }
        table.chances.falling[moment] = set;
        return true;
    }

    public long when(int guest, int m, int list, int what) {
        if (!isToCome(guest, m, list) || !within(what, 0, 2)) {
            return NONE;
        }
        Chances chances = table.chances;
        chances.startWith(table.evening.holdNow());
        int best = chances.bestMoment(guest, m, list);
        if (what == 0) {
            return best;
        }
        return lowest(chances.part(guest, m, list, 1 << best), WHOLE * hundreds(m), what == 2);
    }

    public long words(int guest, int m, int w, int list, int what) {
        if (!isToCome(guest, m, list) || !within(w, 0, 6) || !within(what, 0, 2)) {
            return NONE;
        }
        Chances chances = table.chances;
        chances.startWith(table.evening.holdNow());
        int best = chances.bestMoments(guest, m, w, list);
        if (what == 0) {
            return best;
        }
        return lowest(chances.part(guest, m, list, best), WHOLE * hundreds(m), what == 2);
    }

    public int fewest(int guest, int m, int list, int q) {
        if (!isToCome(guest, m, list) || !within(q, 1, 100)) {
            return NONE;
        }
        Chances chances = table.chances;
        chances.startWith(table.evening.holdNow());
        return chances.fewestFor(guest, m, list, WHOLE * hundreds(m) / 100 * q);
    }

    public long game(int m, int what) {
        if (!within(m, 1, MOST_GAME) || !within(what, 0, 2)) {
            return REFUSED;
        }
        table.chances.play(m);
        if (what == 2) {
            return table.chances.firstSpeaks ? 1 : 0;
        }
        return lowest(table.chances.difference, hundreds(m), what == 1);
    }

    public long cough(int guest, int m, int q, boolean low) {
        if (!isToCome(guest, m, 0) || !within(q, 0, 10)) {
            return NONE;
        }
        Chances chances = table.chances;
        chances.startWith(table.evening.holdNow());
        return lowest(chances.worthOfKnowing(guest, m, q), 10 * WHOLE * hundreds(m), low);
    }

    // ---- all of it ----

    public int image() {
        kept.copyFrom(table);
        return table.evening.night();
    }

    public int back() {
        table.copyFrom(kept);
        return table.evening.night();
    }

    public int about(int what) {
        switch (what) {
            case 0:
                return table.guests.count;
            case 1:
                return table.evening.night();
            case 2:
                return table.evening.moment();
            case 3:
                return table.evening.wine();
            case 4:
                return table.evening.draw();
            case 5:
                return table.texts;
            case 6:
                return table.ruling;
            case 7:
                return table.steps.count;
            case 8:
                return table.there();
            case 9:
                return tape.length;
            default:
                return REFUSED;
        }
    }

    // ---- how STEPS are done ----

    private int speak(int guest, int kind, boolean isStep) {
        if (!table.isThere(guest) || table.evening.isFull()) {
            return REFUSED;
        }
        if (isStep) {
            table.keepStep();
        }
        int falls = laws.whenFalls(table, scriptAt(table.ruling), guest, kind);
        table.evening.enter(guest, kind, falls);
        if (kind == BYE_KIND) {
            table.evening.letGo(1 << guest);
        }
        return falls;
    }

    private boolean passAsCan(int n) {
        for (int i = 0; i < n; i++) {
            if (table.evening.moment() >= LAST_MOMENT) {
                return false;
            }
            table.keepStep();
            passOne();
        }
        return true;
    }

    private void passOne() {
        int moment = table.evening.moment();
        for (int g = 0; g < table.guests.count; g++) {
            if (table.guests.goes[g] == moment) {
                table.evening.letGo(1 << g);
            }
        }
        table.evening.setMoment(moment + 1);
    }

    private int endDinner() {
        int heirs = table.evening.wouldHold();
        int dies = laws.howLikely(table, scriptAt(table.ruling), heirs);
        table.evening.close(heirs, dies);
        return heirs;
    }

    private boolean perform(int clause) {
        int number = Script.firstOf(clause);
        switch (Script.headOf(clause)) {
            case GUEST:
                return guest(number, Script.secondOf(clause), NONE) != NONE;
            case SAY:
                return speak(number, WORD_KIND, true) != REFUSED;
            case OH:
                return speak(number, OH_KIND, true) != REFUSED;
            case TOAST:
                return speak(number, TOAST_KIND, true) != REFUSED;
            case BYE:
                return speak(number, BYE_KIND, true) != REFUSED;
            case ASK:
                return ask();
            case PASS:
                return passAsCan(number);
            case SEND:
                return send(number);
            case DINNER:
                return dinner() != NONE;
            default:
                return true;
        }
    }

    private boolean drawOne(int x) {
        Evening evening = table.evening;
        int drawn = x % 7;
        if (drawn <= BYE_KIND) {
            int count = table.guests.count;
            speak(count > 0 ? x % count : NONE, drawn, false);
        } else if (drawn == 4) {
            if (!evening.isFull()) {
                evening.enter(OLD_MAN, OLD_KIND, evening.moment());
            }
        } else if (drawn == 5) {
            if (evening.moment() < LAST_MOMENT) {
                passOne();
            }
        } else if (evening.night() < LAST_NIGHT) {
            endDinner();
            return true;
        }
        return false;
    }

    // ---- what several calls share ----

    private Script scriptAt(int i) {
        return within(i, 0, MOST_TEXTS - 1) ? scripts[i] : null;
    }

    private boolean isOfBook(int n) {
        return within(n, 1, MOST_NIGHTS) && n <= table.evening.written();
    }

    private boolean isToCome(int guest, int m, int list) {
        return table.guests.knows(guest) && within(m, 1, MOST_AHEAD) && within(list, 0, 1);
    }

    private int aheadByRank(int guest) {
        int[] rank = table.guests.rank;
        int ahead = 0;
        for (int g = 0; g < table.guests.count; g++) {
            boolean first = rank[g] > rank[guest] || rank[g] == rank[guest] && g < guest;
            if (first && table.isThere(g)) {
                ahead++;
            }
        }
        return ahead;
    }

    private void countToasts() {
        for (int g = 0; g < MOST_GUESTS; g++) {
            toasts[g] = table.evening.countOf(g, TOAST_KIND);
        }
    }

    private int nextByToasts() {
        int[] rank = table.guests.rank;
        int best = NONE;
        for (int g = 0; g < table.guests.count; g++) {
            if (table.isThere(g) && (best < 0 || toasts[g] < toasts[best]
                    || toasts[g] == toasts[best] && rank[g] > rank[best])) {
                best = g;
            }
        }
        return best;
    }

    private static boolean within(int value, int from, int to) {
        return value >= from && value <= to;
    }

    /** A STANDING is the greatest MOMENT and 1, times 256, and the bits of those who FALL in it. */
    private static int joined(int standing, int moment, int bits) {
        int latest = standing >> 8;
        if (moment + 1 > latest) {
            return (moment + 1) << 8 | bits;
        }
        return moment + 1 == latest ? standing | bits : standing;
    }

    private static int holders(int standing) {
        return standing & GUEST_BITS;
    }

    private static int latestMoment(int standing) {
        return (standing >> 8) - 1;
    }

    private static int bitOf(int who) {
        return who >= 0 && who < MOST_GUESTS ? 1 << who : 0;
    }

    private static int partOfWhole(int heirs, int guest) {
        int many = Integer.bitCount(heirs);
        return many > 0 && (heirs & bitOf(guest)) != 0 ? WHOLE / many : 0;
    }

    private static long hundreds(int n) {
        long product = 1;
        for (int i = 0; i < n; i++) {
            product *= 100;
        }
        return product;
    }

    private static long lowest(long upper, long lower, boolean low) {
        long divisor = Math.abs(upper);
        long rest = lower;
        for (int i = 0; i < 200 && rest != 0; i++) {
            long next = divisor % rest;
            divisor = rest;
            rest = next;
        }
        long wanted = low ? lower : upper;
        return divisor == 0 ? wanted : wanted / divisor;
    }

    // ---- the parts ----

    /** All that an image keeps; TEXTS only grow but by going back, so that their number is enough. */
    private static final class Table {
        final Guests guests = new Guests();
        final Evening evening = new Evening();
        final Steps steps = new Steps();
        final Chances chances = new Chances();
        int texts = 0;
        int ruling = NONE;

        void copyFrom(Table other) {
            guests.copyFrom(other.guests);
            evening.copyFrom(other.evening.cells);
            steps.copyFrom(other.steps);
            chances.copyFrom(other.chances);
            texts = other.texts;
            ruling = other.ruling;
        }

        boolean isThere(int guest) {
            return guests.knows(guest) && (there() >> guest & 1) == 1;
        }

        int there() {
            return guests.everybody() & ~evening.gone();
        }

        void keepStep() {
            steps.keep(evening.cells);
        }
    }

    private static final class Guests {
        final int[] rank = new int[MOST_GUESTS];
        final int[] hears = new int[MOST_GUESTS];
        final int[] goes = new int[MOST_GUESTS];
        int count = 0;

        int add(int itsRank, int itHears, int itGoes) {
            if (!within(count, 0, MOST_GUESTS - 1)) {
                return NONE;
            }
            rank[count] = itsRank;
            hears[count] = itHears;
            goes[count] = itGoes;
            count++;
            return count - 1;
        }

        boolean knows(int guest) {
            return within(guest, 0, Math.min(count, MOST_GUESTS) - 1);
        }

        boolean knowsAll(int set) {
            return within(set, 0, everybody());
        }

        int everybody() {
            return (1 << count) - 1;
        }

        void copyFrom(Guests other) {
            System.arraycopy(other.rank, 0, rank, 0, MOST_GUESTS);
            System.arraycopy(other.hears, 0, hears, 0, MOST_GUESTS);
            System.arraycopy(other.goes, 0, goes, 0, MOST_GUESTS);
            count = other.count;
        }
    }

    /**
     * Tonight and the book in one row of numbers, so that a STEP is kept by one copy. WINE, WORDS,
     * TOASTS and LAST are read off THE LOG, which holds all that was said tonight; who is gone is
     * kept rather than who is THERE, so that GUESTS told later are THERE in an older row.
     */
    private static final class Evening {
        private static final int NIGHT_CELL = 0;
        private static final int MOMENT_CELL = 1;
        private static final int DRAW_CELL = 2;
        private static final int GONE_CELL = 3;
        private static final int SPOKEN_CELL = 4;
        private static final int WRITTEN_CELL = 5;
        private static final int LOG_CELL = 6;
        private static final int BOOK_CELL = LOG_CELL + MOST_LOG;
        static final int CELLS = BOOK_CELL + MOST_BOOK;

        final int[] cells = new int[CELLS];
        private final int[] fallen = new int[LAST_MOMENT + 1];

        Evening() {
            cells[DRAW_CELL] = 61;
        }

        void copyFrom(int[] row) {
            System.arraycopy(row, 0, cells, 0, Math.min(row.length, CELLS));
        }

        int night() {
            return cells[NIGHT_CELL];
        }

        int moment() {
            return cells[MOMENT_CELL];
        }

        void setMoment(int moment) {
            cells[MOMENT_CELL] = moment;
        }

        int draw() {
            return cells[DRAW_CELL];
        }

        void setDraw(int x) {
            cells[DRAW_CELL] = x;
        }

        int gone() {
            return cells[GONE_CELL];
        }

        void letGo(int bits) {
            cells[GONE_CELL] |= bits;
        }

        int spoken() {
            return cells[SPOKEN_CELL];
        }

        boolean isFull() {
            return spoken() >= MOST_LOG;
        }

        int entry(int i) {
            return i >= 0 && i < MOST_LOG ? cells[LOG_CELL + i] : 0;
        }

        int written() {
            return cells[WRITTEN_CELL];
        }

        int page(int i) {
            return i >= 0 && i < MOST_BOOK ? cells[BOOK_CELL + i] : 0;
        }

        static int momentOf(int entry) {
            return entry & 127;
        }

        static int whoOf(int entry) {
            return entry >> 7 & 15;
        }

        static int kindOf(int entry) {
            return entry >> 11 & 7;
        }

        static int fallsOf(int entry) {
            return (entry >> 14) - 1;
        }

        static int nightOf(int page) {
            return page & 1023;
        }

        static int heirsOf(int page) {
            return page >> 10 & GUEST_BITS;
        }

        static int diesOf(int page) {
            return page >> 18;
        }

        void enter(int who, int kind, int falls) {
            int at = spoken();
            if (!within(at, 0, MOST_LOG - 1)) {
                return;
            }
            cells[LOG_CELL + at] = moment() | who << 7 | kind << 11 | (falls + 1) << 14;
            cells[SPOKEN_CELL] = at + 1;
        }

        void close(int heirs, int dies) {
            if (written() >= MOST_BOOK) {
                System.arraycopy(cells, BOOK_CELL + 1, cells, BOOK_CELL, MOST_BOOK - 1);
                cells[WRITTEN_CELL] = MOST_BOOK - 1;
            }
            int at = written();
            if (within(at, 0, MOST_BOOK - 1)) {
                cells[BOOK_CELL + at] = night() | heirs << 10 | dies << 18;
                cells[WRITTEN_CELL] = at + 1;
            }
            cells[NIGHT_CELL]++;
            cells[MOMENT_CELL] = 0;
            cells[GONE_CELL] = 0;
            cells[SPOKEN_CELL] = 0;
        }

        int countOf(int who, int kind) {
            int found = 0;
            for (int i = 0; i < spoken(); i++) {
                int entry = entry(i);
                if (whoOf(entry) == who && kindOf(entry) == kind) {
                    found++;
                }
            }
            return found;
        }

        int wine() {
            int found = 0;
            for (int i = 0; i < spoken(); i++) {
                if (kindOf(entry(i)) == TOAST_KIND) {
                    found++;
                }
            }
            return found;
        }

        int wordsOf(int who) {
            int found = 0;
            for (int i = 0; i < spoken(); i++) {
                if (whoOf(entry(i)) == who) {
                    found++;
                }
            }
            return found;
        }

        int lastOf(int who) {
            int last = NONE;
            for (int i = 0; i < spoken(); i++) {
                if (whoOf(entry(i)) == who) {
                    last = momentOf(entry(i));
                }
            }
            return last;
        }

        int holdNow() {
            return holders(standing(moment()));
        }

        int wouldHold() {
            return holders(standing(EVER));
        }

        int standing(int before) {
            int standing = 0;
            for (int i = 0; i < spoken(); i++) {
                int entry = entry(i);
                int falls = fallsOf(entry);
                if (falls != NONE && falls < before) {
                    standing = joined(standing, falls, bitOf(whoOf(entry)));
                }
            }
            return standing;
        }

        int standingWithout(int guest, int from) {
            int standing = 0;
            for (int i = 0; i < spoken(); i++) {
                int entry = entry(i);
                int falls = fallsOf(entry);
                boolean left = whoOf(entry) != guest || momentOf(entry) < from;
                if (falls != NONE && left) {
                    standing = joined(standing, falls, bitOf(whoOf(entry)));
                }
            }
            return standing;
        }

        int momentsHeld(int bit) {
            Arrays.fill(fallen, NONE);
            for (int i = 0; i < spoken(); i++) {
                int entry = entry(i);
                int falls = fallsOf(entry);
                if (within(falls, 0, LAST_MOMENT)) {
                    fallen[falls] = Math.max(fallen[falls], 0) | bitOf(whoOf(entry));
                }
            }
            int holding = 0;
            int many = 0;
            for (int t = 0; t < moment() && t <= LAST_MOMENT; t++) {
                holding = fallen[t] == NONE ? holding : fallen[t];
                many += (holding & bit) != 0 ? 1 : 0;
            }
            return many;
        }

        /** Its latest that FALLS is the dearest to lose: all beyond it, and others in it, must go. */
        int inTheWayOf(int guest) {
            int latest = NONE;
            for (int i = 0; i < spoken(); i++) {
                if (whoOf(entry(i)) == guest) {
                    latest = Math.max(latest, fallsOf(entry(i)));
                }
            }
            if (latest == NONE) {
                return NONE;
            }
            int inTheWay = 0;
            for (int i = 0; i < spoken(); i++) {
                int entry = entry(i);
                int falls = fallsOf(entry);
                boolean shares = falls == latest && whoOf(entry) != guest && whoOf(entry) != OLD_MAN;
                if (falls > latest || shares) {
                    inTheWay++;
                }
            }
            return inTheWay;
        }
    }

    /** The latest STEPS as a ring of rows, each as all was ahead of the STEP. */
    private static final class Steps {
        private final int[][] rows = new int[MOST_STEPS][Evening.CELLS];
        private int next = 0;
        int count = 0;

        void keep(int[] cells) {
            System.arraycopy(cells, 0, rows[Math.floorMod(next, MOST_STEPS)], 0, Evening.CELLS);
            next = Math.floorMod(next + 1, MOST_STEPS);
            count = Math.min(count + 1, MOST_STEPS);
        }

        boolean takeBack(Evening evening) {
            if (count <= 0) {
                return false;
            }
            next = Math.floorMod(next - 1, MOST_STEPS);
            evening.copyFrom(rows[next]);
            count--;
            return true;
        }

        void copyFrom(Steps other) {
            for (int i = 0; i < MOST_STEPS; i++) {
                System.arraycopy(other.rows[i], 0, rows[i], 0, Evening.CELLS);
            }
            next = other.next;
            count = other.count;
        }
    }

    /** What the book tells of the estate; ODDS come as so many out of the hundreds of n NIGHTS. */
    private static final class Estate {
        /** Out of WHOLE times the hundreds. */
        static long partOf(Evening evening, int n, int guest) {
            long got = 0;
            for (int i = 0; i < n; i++) {
                got += dyingIn(evening, n, 1 << i) * partOfWhole(heirsOfLatest(evening, n, i), guest);
            }
            return got;
        }

        /** Of the latest n NIGHTS (bits, the eldest first) those in which somebody HELD. */
        static int nightsHeld(Evening evening, int n) {
            int nights = 0;
            for (int i = 0; i < n; i++) {
                nights |= heirsOfLatest(evening, n, i) != 0 ? 1 << i : 0;
            }
            return nights;
        }

        /** Of the latest n NIGHTS (bits, the eldest first) those in which just a set HELD. */
        static int nightsHeldBy(Evening evening, int n, int set) {
            int nights = 0;
            for (int i = 0; i < n; i++) {
                nights |= heirsOfLatest(evening, n, i) == set ? 1 << i : 0;
            }
            return nights;
        }

        static long dyingIn(Evening evening, int n, int nights) {
            long dead = 0;
            long alive = 1;
            int first = evening.written() - n;
            for (int i = 0; i < n; i++) {
                int dies = Evening.diesOf(evening.page(first + i));
                dead = dead * 100 + ((nights >> i & 1) == 1 ? alive * dies : 0);
                alive *= 100 - dies;
            }
            return dead;
        }

        private static int heirsOfLatest(Evening evening, int n, int i) {
            return Evening.heirsOf(evening.page(evening.written() - n + i));
        }

        static int nightsOf(Evening evening, int bit, boolean alone) {
            int found = 0;
            for (int i = 0; i < evening.written(); i++) {
                int heirs = Evening.heirsOf(evening.page(i));
                if (alone ? heirs == bit : (heirs & bit) != 0) {
                    found++;
                }
            }
            return found;
        }

        static int longestRun(Evening evening) {
            int longest = 0;
            for (int i = 0; i < evening.written(); i++) {
                longest = Math.max(longest, runFrom(evening, i));
            }
            return longest;
        }

        static int longestSet(Evening evening) {
            int longest = 0;
            int set = NONE;
            for (int i = 0; i < evening.written(); i++) {
                int run = runFrom(evening, i);
                if (run > longest) {
                    longest = run;
                    set = Evening.heirsOf(evening.page(i));
                }
            }
            return set;
        }

        private static int runFrom(Evening evening, int first) {
            int set = Evening.heirsOf(evening.page(first));
            int run = 0;
            for (int i = first; i < evening.written(); i++) {
                if (Evening.heirsOf(evening.page(i)) != set) {
                    break;
                }
                run++;
            }
            return run;
        }
    }

    /** The MOMENTS to come: how likely he dies in each by two lists, and who FALLS in it. */
    private static final class Chances {
        private static final int HOLDINGS = 4;

        final int[][] dies = new int[2][MOST_AHEAD];
        final int[] falling = new int[MOST_AHEAD];
        private int holdingAtFirst = 0;
        /** By who HOLDS (1 the first, 2 the second, 3 both), times 4, and whose word is left (likewise). */
        private final long[] values = new long[HOLDINGS * 4];
        private final long[] later = new long[HOLDINGS * 4];
        private long unit = 1;
        long difference = 0;
        boolean firstSpeaks = false;

        Chances() {
            Arrays.fill(dies[0], 10);
            Arrays.fill(dies[1], 10);
        }

        void copyFrom(Chances other) {
            System.arraycopy(other.dies[0], 0, dies[0], 0, MOST_AHEAD);
            System.arraycopy(other.dies[1], 0, dies[1], 0, MOST_AHEAD);
            System.arraycopy(other.falling, 0, falling, 0, MOST_AHEAD);
        }

        void startWith(int holding) {
            holdingAtFirst = holding;
        }

        /** Out of WHOLE times the hundreds of m, if the GUEST speaks in MOMENTS (bits). */
        long part(int guest, int m, int list, int spoken) {
            long got = 0;
            long alive = 1;
            int holding = holdingAtFirst;
            for (int t = 0; t < m && t < MOST_AHEAD; t++) {
                int now = falling[t] | ((spoken >> t & 1) == 1 ? bitOf(guest) : 0);
                holding = now == 0 ? holding : now;
                int p = dies[list & 1][t];
                got = got * 100 + alive * p * partOfWhole(holding, guest);
                alive *= 100 - p;
            }
            return got;
        }

        int bestMoment(int guest, int m, int list) {
            int best = 0;
            for (int t = 1; t < m; t++) {
                if (part(guest, m, list, 1 << t) > part(guest, m, list, 1 << best)) {
                    best = t;
                }
            }
            return best;
        }

        int bestMoments(int guest, int m, int w, int list) {
            int best = 0;
            long most = part(guest, m, list, 0);
            for (int set = 1; set < 1 << m; set++) {
                int many = Integer.bitCount(set);
                if (many > w) {
                    continue;
                }
                long got = part(guest, m, list, set);
                if (got > most || got == most && many < Integer.bitCount(best)) {
                    best = set;
                    most = got;
                }
            }
            return best;
        }

        int fewestFor(int guest, int m, int list, long wanted) {
            int fewest = NONE;
            for (int set = 0; set < 1 << m; set++) {
                int many = Integer.bitCount(set);
                if ((fewest == NONE || many < fewest) && part(guest, m, list, set) >= wanted) {
                    fewest = many;
                }
            }
            return fewest;
        }

        /** Out of ten times WHOLE times the hundreds of m. */
        long worthOfKnowing(int guest, int m, int q) {
            long blind = 0;
            for (int t = 0; t < m; t++) {
                long got = q * part(guest, m, 0, 1 << t) + (10 - q) * part(guest, m, 1, 1 << t);
                blind = Math.max(blind, got);
            }
            long known = q * part(guest, m, 0, 1 << bestMoment(guest, m, 0))
                    + (10 - q) * part(guest, m, 1, 1 << bestMoment(guest, m, 1));
            return known - blind;
        }

        /** From the last MOMENT to the first: what each state is worth, out of the hundreds of m. */
        void play(int m) {
            Arrays.fill(later, 0);
            unit = 1;
            for (int t = m - 1; t > 0; t--) {
                for (int state = 0; state < HOLDINGS * 4; state++) {
                    values[state] = bestOfFirst(t, state >> 2, state & 3);
                }
                System.arraycopy(values, 0, later, 0, HOLDINGS * 4);
                unit *= 100;
            }
            long silent = bestOfSecond(0, 0, 3, 0);
            long spoken = bestOfSecond(0, 0, 2, 1);
            firstSpeaks = spoken > silent;
            difference = Math.max(spoken, silent);
        }

        private long bestOfFirst(int t, int holding, int left) {
            long silent = bestOfSecond(t, holding, left, 0);
            return (left & 1) == 0 ? silent : Math.max(silent, bestOfSecond(t, holding, left & 2, 1));
        }

        private long bestOfSecond(int t, int holding, int left, int spoke) {
            long silent = outcome(t, spoke == 0 ? holding : spoke, left);
            if ((left & 2) == 0) {
                return silent;
            }
            return Math.min(silent, outcome(t, spoke | 2, left & 1));
        }

        private long outcome(int t, int holding, int left) {
            int p = within(t, 0, MOST_AHEAD - 1) ? dies[0][t] : 0;
            int sign = holding == 1 ? 1 : holding == 2 ? -1 : 0;
            long lives = later[(holding & 3) << 2 | left & 3];
            return p * sign * unit + (100 - p) * lives;
        }
    }

    /** A TEXT that was read: its CLAUSES, and its laws as code that works on a pile of numbers. */
    private static final class Script {
        private static final int LAWS = 3;

        private final int[] code = new int[MOST_BYTES];
        private final int[] clause = new int[MOST_CLAUSES];
        private final int[] starts = new int[LAWS];
        int size = 0;
        int clauses = 0;

        void clear() {
            size = 0;
            clauses = 0;
            Arrays.fill(starts, NONE);
        }

        void copyFrom(Script other) {
            System.arraycopy(other.code, 0, code, 0, MOST_BYTES);
            System.arraycopy(other.clause, 0, clause, 0, MOST_CLAUSES);
            System.arraycopy(other.starts, 0, starts, 0, LAWS);
            size = other.size;
            clauses = other.clauses;
        }

        void put(int op, int argument) {
            if (size >= 0 && size < MOST_BYTES) {
                code[size] = op | argument << 6;
                size++;
            }
        }

        /** A cell that was put ahead of its aim gets it. */
        void aim(int at, int to) {
            if (at >= 0 && at < size && at < MOST_BYTES) {
                code[at] = code[at] & 63 | to << 6;
            }
        }

        int opAt(int at) {
            return at >= 0 && at < size && at < MOST_BYTES ? code[at] & 63 : STOP;
        }

        int argumentAt(int at) {
            return at >= 0 && at < size && at < MOST_BYTES ? code[at] >> 6 : 0;
        }

        int startOf(int law) {
            return within(law, COUNTS, DIES) ? starts[law - COUNTS] : NONE;
        }

        void startHere(int law) {
            if (within(law, COUNTS, DIES)) {
                starts[law - COUNTS] = size;
            }
        }

        void addClause(int head, int first, int second) {
            if (within(clauses, 0, MOST_CLAUSES - 1)) {
                clause[clauses] = head | first << 5 | second << 11;
                clauses++;
            }
        }

        int clauseAt(int i) {
            return within(i, 0, MOST_CLAUSES - 1) ? clause[i] : COUNTS;
        }

        static int headOf(int clause) {
            return clause & 31;
        }

        static int firstOf(int clause) {
            return clause >> 5 & 63;
        }

        static int secondOf(int clause) {
            return clause >> 11;
        }
    }

    /** The bytes that came, and the TOKENS that they are cut into. */
    private static final class Tape {
        private final int[] bytes = new int[MOST_BYTES];
        /** Each: what it is (6 bits), where it starts (9 bits), its number; FINISH behind the last. */
        final int[] tokens = new int[MOST_BYTES + 1];
        private int many = 0;
        int length = 0;

        boolean hasRoom() {
            return length + 20 <= MOST_BYTES;
        }

        void take(int four) {
            for (int shift = 24; shift >= 0; shift -= 8) {
                if (within(length, 0, MOST_BYTES - 1)) {
                    bytes[length] = four >> shift & 255;
                    length++;
                }
            }
        }

        /** Each turn goes on by a byte at least. */
        void cut() {
            many = 0;
            int at = 0;
            for (int i = 0; i < MOST_BYTES && at < length; i++) {
                int first = byteAt(at);
                if (first == 32 || first == 10) {
                    at++;
                } else if (isLetter(first)) {
                    at = cutWord(at);
                } else if (isDigit(first)) {
                    at = cutNumber(at);
                } else {
                    at = cutSign(at);
                }
            }
            add(FINISH, length, 0);
        }

        private void add(int token, int start, int number) {
            if (many >= 0 && many <= MOST_BYTES) {
                tokens[many] = token | start << 6 | number << 15;
                many++;
            }
        }

        private int byteAt(int i) {
            return i >= 0 && i < length && i < MOST_BYTES ? bytes[i] : 0;
        }

        private static boolean isLetter(int sign) {
            return within(sign, 'a', 'z') || within(sign, 'A', 'Z');
        }

        private static boolean isDigit(int sign) {
            return within(sign, '0', '9');
        }

        private int cutWord(int start) {
            int end = start;
            for (int i = 0; i < MOST_BYTES && isLetter(byteAt(end)); i++) {
                end++;
            }
            add(wordOf(start, end), start, 0);
            return end;
        }

        private int wordOf(int start, int end) {
            int word = 0;
            int begin = 0;
            for (int i = 0; i < WORDS.length(); i++) {
                if (WORDS.charAt(i) == ' ') {
                    if (i - begin == end - start && isWordAt(begin, i, start)) {
                        return word;
                    }
                    word++;
                    begin = i + 1;
                }
            }
            return STRANGE;
        }

        private boolean isWordAt(int from, int to, int start) {
            for (int i = from; i < to && i < WORDS.length(); i++) {
                if (WORDS.charAt(i) != byteAt(start + i - from)) {
                    return false;
                }
            }
            return true;
        }

        private int cutNumber(int start) {
            int end = start;
            int number = 0;
            for (int i = 0; i < MOST_BYTES && isDigit(byteAt(end)); i++) {
                number = Math.min(number * 10 + byteAt(end) - '0', MOST_NUMBER + 1);
                end++;
            }
            add(NUMBER, start, number);
            return end;
        }

        private int cutSign(int start) {
            int sign = SIGNS.indexOf((char) byteAt(start));
            int token = sign < 0 ? STRANGE : LESS + sign;
            if ((token == LESS || token == MORE) && byteAt(start + 1) == '=') {
                add(token == LESS ? AT_MOST : AT_LEAST, start, 0);
                return start + 2;
            }
            add(token, start, 0);
            return start + 1;
        }
    }

    /** How a TEXT is read, TOKEN by TOKEN; behind the first FAULT none fits anywhere. */
    private static final class Reader {
        private static final int MOST_OPEN = 8;
        private static final int MOST_CASES = 6;

        boolean hasRead = false;
        int fault = 0;
        int place = NONE;
        private final Tape tape;
        final Script draft = new Script();
        private int law = NONE;
        private int at = 0;
        private int token = FINISH;

        Reader(Tape tape) {
            this.tape = tape;
        }

        void read() {
            draft.clear();
            hasRead = true;
            fault = 0;
            place = NONE;
            tape.cut();
            at = 0;
            token = tape.tokens[0] & 63;
            for (int i = 0; i <= MOST_CLAUSES && token != FINISH && token != BROKEN; i++) {
                readClause();
            }
        }

        private void fail(int what) {
            if (fault == 0) {
                fault = what;
                place = tape.tokens[at] >> 6 & 511;
            }
            token = BROKEN;
        }

        private void advance() {
            if (fault == 0 && at < MOST_BYTES) {
                at++;
                token = tape.tokens[at] & 63;
            }
        }

        private void expect(int wanted) {
            if (token == wanted) {
                advance();
            } else {
                fail(1);
            }
        }

        private int expectNumber(int from, int to) {
            int number = tape.tokens[at] >> 15;
            if (token != NUMBER) {
                fail(1);
            } else if (number < from || number > to) {
                fail(2);
            } else {
                advance();
                return number;
            }
            return from;
        }

        private void readClause() {
            int head = token;
            if (!within(head, COUNTS, DINNER)) {
                fail(1);
            } else if (draft.startOf(head) != NONE) {
                fail(4);
            } else if (draft.clauses >= MOST_CLAUSES) {
                fail(6);
            } else {
                advance();
                law = head;
                draft.startHere(head);
                if (head == COUNTS) {
                    readEither();
                } else if (head <= DIES) {
                    readSum(0);
                }
                readRest(head);
                expect(SEMICOLON);
            }
        }

        /** What a CLAUSE has behind its head, its law aside. */
        private void readRest(int head) {
            int first = 0;
            int second = 0;
            if (head <= DIES) {
                draft.put(STOP, 0);
            } else if (head == GUEST) {
                first = expectNumber(0, 9);
                expect(HEARS);
                second = expectNumber(0, 9);
            } else if (head == PASS) {
                first = expectNumber(1, 60);
            } else if (head != ASK && head != DINNER) {
                first = expectNumber(0, MOST_GUESTS - 1);
            }
            draft.addClause(head, first, second);
        }

        /** One pass for or and and: what and joins is put ahead of what or joins. */
        private void readEither() {
            for (int i = 0; i < MOST_BYTES && (i == 0 || token == OR); i++) {
                if (i > 0) {
                    advance();
                }
                readAsk();
                for (int j = 0; j < MOST_BYTES && token == AND; j++) {
                    advance();
                    readAsk();
                    draft.put(AND, 0);
                }
                if (i > 0) {
                    draft.put(OR, 0);
                }
            }
        }

        private void readAsk() {
            int nots = 0;
            for (int i = 0; i <= MOST_OPEN && token == NOT; i++) {
                if (nots >= MOST_OPEN) {
                    fail(3);
                } else {
                    nots++;
                    advance();
                }
            }
            readSum(nots);
            int op = token;
            if (within(op, LESS, UNLIKE) || op == AT_MOST || op == AT_LEAST) {
                advance();
                readSum(nots);
                draft.put(op, 0);
            } else {
                fail(1);
            }
            for (int i = 0; i < nots; i++) {
                draft.put(NOT, 0);
            }
        }

        /** Depth: how many of ( not choose and - are open around it. */
        private void readSum(int depth) {
            readProduct(depth);
            for (int i = 0; i < MOST_BYTES && (token == PLUS || token == MINUS); i++) {
                int op = token;
                advance();
                readProduct(depth);
                draft.put(op, 0);
            }
        }

        private void readProduct(int depth) {
            readOne(depth);
            for (int i = 0; i < MOST_BYTES && (token == TIMES || token == OVER); i++) {
                int op = token;
                advance();
                readOne(depth);
                draft.put(op, 0);
            }
        }

        private void readOne(int depth) {
            if (token == NUMBER) {
                draft.put(NUMBER, expectNumber(0, MOST_NUMBER));
            } else if (within(token, NIGHT, HEIRS)) {
                readName();
            } else if (token != OPEN && token != MINUS && token != CHOOSE) {
                fail(1);
            } else if (depth >= MOST_OPEN) {
                fail(3);
            } else if (token == CHOOSE) {
                readChoose(depth + 1);
            } else if (token == OPEN) {
                advance();
                readSum(depth + 1);
                expect(CLOSE);
            } else {
                advance();
                readOne(depth + 1);
                draft.put(NEGATE, 0);
            }
        }

        private void readName() {
            boolean ofSpeaker = within(token, RANK, HAS);
            boolean ofDinner = within(token, SAID, HEIRS);
            if (law == DIES ? ofSpeaker : ofDinner) {
                fail(5);
            } else {
                draft.put(token, 0);
                advance();
            }
        }

        private void readChoose(int depth) {
            advance();
            readSum(depth);
            if (token != CASE) {
                fail(1);
            }
            int jumps = NONE;
            for (int i = 0; i <= MOST_CASES && token == CASE; i++) {
                if (i == MOST_CASES) {
                    fail(7);
                } else {
                    jumps = readCase(depth, jumps);
                }
            }
            expect(ELSE);
            draft.put(DROP, 0);
            readSum(depth);
            expect(END);
            for (int i = 0; i < MOST_CASES && jumps != NONE; i++) {
                int ahead = draft.argumentAt(jumps) - 1;
                draft.aim(jumps, draft.size);
                jumps = ahead;
            }
        }

        /** The JUMP behind a case's SUM keeps where the one ahead of it stands, till both get their aim. */
        private int readCase(int depth, int jumpAhead) {
            advance();
            int from = expectNumber(0, MOST_NUMBER);
            int to = from;
            if (token == TO) {
                advance();
                if (token == NUMBER && tape.tokens[at] >> 15 < from) {
                    fail(7);
                }
                to = expectNumber(0, MOST_NUMBER);
            }
            expect(COLON);
            draft.put(CASE, from);
            draft.put(RANGE, to);
            int skip = draft.size;
            draft.put(SKIP, 0);
            readSum(depth);
            int jump = draft.size;
            draft.put(JUMP, jumpAhead + 1);
            draft.aim(skip, draft.size);
            return jump;
        }
    }

    /** What the ruling TEXT says, worked out on a pile of numbers. */
    private static final class Laws {
        private static final int MOST_PILED = 64;

        private final int[] named = new int[HEIRS + 1];
        private final int[] pile = new int[MOST_PILED];
        private int piled = 0;

        int whenFalls(Table table, Script ruling, int guest, int kind) {
            if (!table.guests.knows(guest)) {
                return NONE;
            }
            int lag = table.guests.hears[guest] < 3 ? 3 : 0;
            int moment = table.evening.moment();
            if (ruling == null) {
                return moment + lag;
            }
            nameSpeaker(table, guest, kind);
            if (ruling.startOf(COUNTS) != NONE && run(ruling, ruling.startOf(COUNTS)) == 0) {
                return NONE;
            }
            if (ruling.startOf(LAG) != NONE) {
                lag = Math.max(0, Math.min(99, run(ruling, ruling.startOf(LAG))));
            }
            return moment + lag;
        }

        int howLikely(Table table, Script ruling, int heirs) {
            if (ruling == null || ruling.startOf(DIES) == NONE) {
                return 10;
            }
            nameEvening(table.evening);
            named[SAID] = table.evening.spoken();
            named[HEIRS] = Integer.bitCount(heirs);
            return Math.max(0, Math.min(100, run(ruling, ruling.startOf(DIES))));
        }

        private void nameEvening(Evening evening) {
            named[NIGHT] = evening.night();
            named[MOMENT] = evening.moment();
            named[WINE] = evening.wine();
        }

        private void nameSpeaker(Table table, int guest, int kind) {
            Evening evening = table.evening;
            if (!table.guests.knows(guest)) {
                return;
            }
            nameEvening(evening);
            int last = evening.lastOf(guest);
            named[RANK] = table.guests.rank[guest];
            named[HEARS] = table.guests.hears[guest];
            named[KIND] = kind;
            named[WORDS_SO_FAR] = evening.wordsOf(guest);
            named[SINCE] = last == NONE ? 99 : evening.moment() - last;
            named[GUESTS_THERE] = Integer.bitCount(table.there());
            named[HAS] = evening.holdNow() >> guest & 1;
        }

        private void push(int value) {
            if (piled >= 0 && piled < MOST_PILED) {
                pile[piled] = value;
                piled++;
            }
        }

        private int pop() {
            if (piled < 1 || piled > MOST_PILED) {
                return 0;
            }
            piled--;
            return pile[piled];
        }

        /** All jumps go ahead, so that no run takes more turns than a TEXT has bytes. */
        private int run(Script script, int from) {
            piled = 0;
            int at = from;
            for (int i = 0; i < MOST_BYTES && script.opAt(at) != STOP; i++) {
                int op = script.opAt(at);
                if (op == JUMP) {
                    at = script.argumentAt(at);
                } else if (op == CASE) {
                    at = behindCase(script, at);
                } else {
                    work(op, script.argumentAt(at));
                    at++;
                }
            }
            return pop();
        }

        private int behindCase(Script script, int at) {
            int value = pop();
            if (within(value, script.argumentAt(at), script.argumentAt(at + 1))) {
                return at + 3;
            }
            push(value);
            return script.argumentAt(at + 2);
        }

        private void work(int op, int argument) {
            if (within(op, NIGHT, HEIRS)) {
                push(named[op]);
            } else if (op == NUMBER) {
                push(argument);
            } else if (op == NEGATE) {
                push(-pop());
            } else if (op == NOT) {
                push(1 - pop());
            } else if (op == DROP) {
                pop();
            } else {
                int right = pop();
                int left = pop();
                push(op <= UNLIKE || op >= AT_MOST ? compared(op, left, right) : counted(op, left, right));
            }
        }

        private static int compared(int op, int left, int right) {
            switch (op) {
                case LESS:
                    return left < right ? 1 : 0;
                case MORE:
                    return left > right ? 1 : 0;
                case SAME:
                    return left == right ? 1 : 0;
                case UNLIKE:
                    return left != right ? 1 : 0;
                case AT_MOST:
                    return left <= right ? 1 : 0;
                case AT_LEAST:
                    return left >= right ? 1 : 0;
                case OR:
                    return left | right;
                default:
                    return left & right;
            }
        }

        private static int counted(int op, int left, int right) {
            long result;
            switch (op) {
                case PLUS:
                    result = (long) left + right;
                    break;
                case MINUS:
                    result = (long) left - right;
                    break;
                case TIMES:
                    result = (long) left * right;
                    break;
                default:
                    result = right == 0 ? 0 : left / right;
            }
            return (int) Math.max(-LIMIT, Math.min(LIMIT, result));
        }
    }
}
