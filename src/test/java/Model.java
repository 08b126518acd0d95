import java.math.BigInteger;
import java.util.ArrayDeque;
import java.util.ArrayList;
import java.util.Deque;
import java.util.List;
import java.util.function.IntPredicate;
import java.util.function.Predicate;

/**
 * The document once more, in the plainest way and without a thought to speed or room: lists are
 * copied whole, ODDS are fractions, what is best is found by trying all. ModelTest holds the class
 * against it.
 */
final class Model {
    static final int NONE = -1;

    private static final class Guest {
        int rank;
        int hears;
        int goes;
        boolean there = true;
        int words = 0;
        int toasts = 0;
        int last = NONE;

        Guest copy() {
            Guest g = new Guest();
            g.rank = rank;
            g.hears = hears;
            g.goes = goes;
            g.there = there;
            g.words = words;
            g.toasts = toasts;
            g.last = last;
            return g;
        }

        void anew() {
            there = true;
            words = 0;
            toasts = 0;
            last = NONE;
        }
    }

    private record Entry(int moment, int who, int kind, int falls) {
    }

    private record Page(int night, int heirs, int dies) {
    }

    private static final class State {
        List<Guest> guests = new ArrayList<>();
        int night = 0;
        int moment = 0;
        int wine = 0;
        int x = 61;
        List<Entry> log = new ArrayList<>();
        List<Page> book = new ArrayList<>();
        List<ModelText> texts = new ArrayList<>();
        int ruling = NONE;
        int[][] p = {{10, 10, 10, 10, 10, 10}, {10, 10, 10, 10, 10, 10}};
        int[] falls = new int[6];
        Deque<State> steps = new ArrayDeque<>();

        State copy() {
            State s = new State();
            for (Guest g : guests) {
                s.guests.add(g.copy());
            }
            s.night = night;
            s.moment = moment;
            s.wine = wine;
            s.x = x;
            s.log = new ArrayList<>(log);
            s.book = new ArrayList<>(book);
            s.texts = new ArrayList<>(texts);
            s.ruling = ruling;
            s.p = new int[][] {p[0].clone(), p[1].clone()};
            s.falls = falls.clone();
            s.steps = new ArrayDeque<>(steps);
            return s;
        }
    }

    private State s = new State();
    private State image = s.copy();
    private final List<Integer> tape = new ArrayList<>();
    private ModelText latest = null;

    private boolean told(int g) {
        return g >= 0 && g < s.guests.size();
    }

    private boolean toldAll(int set) {
        return set >= 0 && set < 1 << s.guests.size();
    }

    private int bits(IntPredicate which) {
        int set = 0;
        for (int g = 0; g < s.guests.size(); g++) {
            set |= which.test(g) ? 1 << g : 0;
        }
        return set;
    }

    int guest(int rank, int hears, int goes) {
        if (rank < 0 || rank > 9 || hears < 0 || hears > 9 || goes < -1 || goes > 99 || s.guests.size() == 8) {
            return NONE;
        }
        Guest g = new Guest();
        g.rank = rank;
        g.hears = hears;
        g.goes = goes;
        s.guests.add(g);
        return s.guests.size() - 1;
    }

    int feed(int a, int b, int c, int d, int e) {
        if (tape.size() > 280) {
            return NONE;
        }
        for (int four : new int[] {a, b, c, d, e}) {
            tape.add(four >>> 24);
            tape.add(four >>> 16 & 255);
            tape.add(four >>> 8 & 255);
            tape.add(four & 255);
        }
        return tape.size();
    }

    int end(int n) {
        if (n < 0 || n > tape.size()) {
            return NONE;
        }
        tape.subList(n, tape.size()).clear();
        return n;
    }

    int text() {
        if (s.texts.size() == 4) {
            return NONE;
        }
        latest = new ModelText(tape);
        tape.clear();
        if (latest.fault != 0) {
            return NONE;
        }
        s.texts.add(latest);
        return s.texts.size() - 1;
    }

    int fault(int what) {
        if (latest == null || what != 0 && what != 1) {
            return NONE;
        }
        return what == 0 ? latest.fault : latest.place;
    }

    boolean by(int text) {
        if (text < -1 || text >= s.texts.size()) {
            return false;
        }
        s.ruling = text;
        return true;
    }

    private void step() {
        State before = s.copy();
        before.steps.clear();
        s.steps.addLast(before);
        if (s.steps.size() > 30) {
            s.steps.removeFirst();
        }
    }

    private int name(String name, int g, int kind) {
        Guest guest = told(g) ? s.guests.get(g) : null;
        return switch (name) {
            case "night" -> s.night;
            case "moment" -> s.moment;
            case "wine" -> s.wine;
            case "rank" -> guest.rank;
            case "hears" -> guest.hears;
            case "kind" -> kind;
            case "words" -> guest.words;
            case "since" -> guest.last == NONE ? 99 : s.moment - guest.last;
            case "guests" -> Integer.bitCount(there());
            case "has" -> holds(false) >> g & 1;
            case "said" -> s.log.size();
            case "heirs" -> Integer.bitCount(holds(true));
            default -> throw new IllegalStateException(name);
        };
    }

    private int falling(int g, int kind) {
        ModelText text = s.ruling == NONE ? null : s.texts.get(s.ruling);
        if (text != null && text.counts != null && text.counts.of(n -> name(n, g, kind)) == 0) {
            return NONE;
        }
        int lag = s.guests.get(g).hears < 3 ? 3 : 0;
        if (text != null && text.lag != null) {
            lag = Math.max(0, Math.min(99, text.lag.of(n -> name(n, g, kind))));
        }
        return s.moment + lag;
    }

    private boolean canSay(int g) {
        return told(g) && s.guests.get(g).there && s.log.size() < 40;
    }

    private int saying(int g, int kind) {
        int falls = falling(g, kind);
        Guest guest = s.guests.get(g);
        s.log.add(new Entry(s.moment, g, kind, falls));
        guest.words++;
        guest.last = s.moment;
        if (kind == 2) {
            s.wine++;
            guest.toasts++;
        }
        if (kind == 3) {
            guest.there = false;
        }
        return falls;
    }

    int say(int g, int kind) {
        if (kind < 0 || kind > 3 || !canSay(g)) {
            return -2;
        }
        step();
        return saying(g, kind);
    }

    boolean ask() {
        if (s.log.size() == 40) {
            return false;
        }
        step();
        s.log.add(new Entry(s.moment, 8, 4, s.moment));
        return true;
    }

    private void passing() {
        for (Guest g : s.guests) {
            if (g.goes == s.moment) {
                g.there = false;
            }
        }
        s.moment++;
    }

    int pass(int n) {
        if (n < 1 || n > 60 || s.moment + n > 99) {
            return NONE;
        }
        for (int i = 0; i < n; i++) {
            step();
            passing();
        }
        return s.moment;
    }

    boolean send(int g) {
        if (!told(g) || !s.guests.get(g).there) {
            return false;
        }
        step();
        s.guests.get(g).there = false;
        return true;
    }

    private int ending() {
        int heirs = holds(true);
        ModelText text = s.ruling == NONE ? null : s.texts.get(s.ruling);
        int dies = 10;
        if (text != null && text.dies != null) {
            dies = Math.max(0, Math.min(100, text.dies.of(n -> name(n, NONE, NONE))));
        }
        s.book.add(new Page(s.night, heirs, dies));
        if (s.book.size() > 20) {
            s.book.remove(0);
        }
        s.night++;
        s.moment = 0;
        s.wine = 0;
        s.log.clear();
        s.guests.forEach(Guest::anew);
        return heirs;
    }

    int dinner() {
        if (s.night == 999) {
            return NONE;
        }
        step();
        return ending();
    }

    private boolean perform(ModelText.Clause c) {
        switch (c.head()) {
            case "guest":
                return guest(c.first(), c.second(), NONE) != NONE;
            case "say":
                return say(c.first(), 0) != -2;
            case "oh":
                return say(c.first(), 1) != -2;
            case "toast":
                return say(c.first(), 2) != -2;
            case "bye":
                return say(c.first(), 3) != -2;
            case "ask":
                return ask();
            case "pass":
                for (int i = 0; i < c.first(); i++) {
                    if (pass(1) == NONE) {
                        return false;
                    }
                }
                return true;
            case "send":
                return send(c.first());
            case "dinner":
                return dinner() != NONE;
            default:
                return true;
        }
    }

    int played(int text) {
        if (text < 0 || text >= s.texts.size()) {
            return -2;
        }
        List<ModelText.Clause> clauses = s.texts.get(text).clauses;
        for (int i = 0; i < clauses.size(); i++) {
            if (!perform(clauses.get(i))) {
                return i;
            }
        }
        return NONE;
    }

    int years(int seed, int n) {
        if (seed < 0 || seed > 9999 || n < 1 || n > 40 || s.guests.isEmpty()) {
            return NONE;
        }
        step();
        s.x = seed * 3 + 61;
        int ended = 0;
        for (int i = 0; i < n; i++) {
            int what = s.x % 7;
            if (what < 4 && canSay(s.x % s.guests.size())) {
                saying(s.x % s.guests.size(), what);
            } else if (what == 4 && s.log.size() < 40) {
                s.log.add(new Entry(s.moment, 8, 4, s.moment));
            } else if (what == 5 && s.moment < 99) {
                passing();
            } else if (what == 6 && s.night < 999) {
                ending();
                ended++;
            }
            s.x = (s.x * 269 + 163) % 30259;
        }
        return ended;
    }

    int undo() {
        if (s.steps.isEmpty()) {
            return NONE;
        }
        State before = s.steps.removeLast().copy();
        for (int g = before.guests.size(); g < s.guests.size(); g++) {
            Guest since = s.guests.get(g).copy();
            since.anew();
            before.guests.add(since);
        }
        s.guests = before.guests;
        s.night = before.night;
        s.moment = before.moment;
        s.wine = before.wine;
        s.x = before.x;
        s.log = before.log;
        s.book = before.book;
        return s.steps.size();
    }

    int of(int g, int what) {
        if (!told(g) || what < 0 || what > 7) {
            return -2;
        }
        Guest guest = s.guests.get(g);
        int[] all = {guest.rank, guest.hears, guest.goes, guest.there ? 1 : 0, guest.words, guest.toasts, guest.last,
            falling(g, 0)};
        return all[what];
    }

    private static int hold(List<Entry> some) {
        int greatest = some.stream().mapToInt(Entry::falls).max().orElse(NONE);
        int set = 0;
        for (Entry e : some) {
            if (e.falls() != NONE && e.falls() == greatest && e.who() != 8) {
                set |= 1 << e.who();
            }
        }
        return set;
    }

    private List<Entry> only(Predicate<Entry> which) {
        return new ArrayList<>(s.log.stream().filter(which).toList());
    }

    int holds(boolean later) {
        return hold(only(e -> later || e.falls() < s.moment));
    }

    int log(int i, int what) {
        if (i == NONE) {
            return s.log.size();
        }
        if (i < 0 || i >= s.log.size() || what < 0 || what > 3) {
            return -2;
        }
        Entry e = s.log.get(i);
        return new int[] {e.moment(), e.who(), e.kind(), e.falls()}[what];
    }

    int book(int i, int what) {
        if (i == NONE) {
            return s.book.size();
        }
        if (i < 0 || i >= s.book.size() || what < 0 || what > 2) {
            return -2;
        }
        Page page = s.book.get(i);
        return new int[] {page.night(), page.heirs(), page.dies()}[what];
    }

    private static final BigInteger HUNDRED = BigInteger.valueOf(100);

    private record Odds(BigInteger up, BigInteger low) {
        static final Odds ZERO = of(0, 1);
        static final Odds SURE = of(1, 1);

        static Odds of(long up, long low) {
            return new Odds(BigInteger.valueOf(up), BigInteger.valueOf(low)).lowest();
        }

        Odds lowest() {
            BigInteger common = up.gcd(low);
            return new Odds(up.divide(common), low.divide(common));
        }

        Odds plus(Odds o) {
            return new Odds(up.multiply(o.low).add(o.up.multiply(low)), low.multiply(o.low)).lowest();
        }

        Odds less(Odds o) {
            return plus(new Odds(o.up.negate(), o.low));
        }

        Odds times(Odds o) {
            return new Odds(up.multiply(o.up), low.multiply(o.low)).lowest();
        }

        Odds over(Odds o) {
            return new Odds(up.multiply(o.low), low.multiply(o.up)).lowest();
        }

        int compare(Odds o) {
            return up.multiply(o.low).compareTo(o.up.multiply(low));
        }

        long part(boolean wantsLow) {
            return (wantsLow ? low : up).longValueExact();
        }
    }

    private boolean bookHas(int n) {
        return n >= 1 && n <= 6 && n <= s.book.size();
    }

    private Odds dyingIn(int n, int i) {
        List<Page> latestOnes = s.book.subList(s.book.size() - n, s.book.size());
        Odds odds = Odds.of(latestOnes.get(i).dies(), 100);
        for (int j = 0; j < i; j++) {
            odds = odds.times(Odds.of(100 - latestOnes.get(j).dies(), 100));
        }
        return odds;
    }

    private static Odds share(int set, int g) {
        return (set >> g & 1) == 0 ? Odds.ZERO : Odds.of(1, Integer.bitCount(set));
    }

    long inherits(int g, int n, boolean low) {
        if (!told(g) || !bookHas(n)) {
            return NONE;
        }
        Odds sum = Odds.ZERO;
        for (int i = 0; i < n; i++) {
            sum = sum.plus(dyingIn(n, i).times(share(s.book.get(s.book.size() - n + i).heirs(), g)));
        }
        return sum.part(low);
    }

    long open(int n, boolean low) {
        if (!bookHas(n)) {
            return NONE;
        }
        Odds nobody = Odds.SURE;
        Odds lives = Odds.SURE;
        Odds sum = Odds.ZERO;
        for (int i = 0; i < n; i++) {
            Page page = s.book.get(s.book.size() - n + i);
            if (page.heirs() == 0) {
                sum = sum.plus(dyingIn(n, i));
            }
            lives = lives.times(Odds.of(100 - page.dies(), 100));
        }
        return sum.plus(lives).times(nobody).part(low);
    }

    long thatNight(int set, int n, int i, boolean low) {
        if (set == 0 || !toldAll(set) || !bookHas(n) || i < 0 || i >= n) {
            return NONE;
        }
        Odds all = Odds.ZERO;
        Odds it = Odds.ZERO;
        for (int j = 0; j < n; j++) {
            if (s.book.get(s.book.size() - n + j).heirs() == set) {
                all = all.plus(dyingIn(n, j));
                it = j == i ? dyingIn(n, j) : it;
            }
        }
        return all.up().signum() == 0 ? NONE : it.over(all).part(low);
    }

    int tally(int g, boolean alone) {
        if (!told(g)) {
            return NONE;
        }
        return (int) s.book.stream().filter(b -> alone ? b.heirs() == 1 << g : (b.heirs() >> g & 1) == 1).count();
    }

    int longest(boolean set) {
        for (int length = s.book.size(); length > 0; length--) {
            for (int from = 0; from + length <= s.book.size(); from++) {
                if (s.book.subList(from, from + length).stream().mapToInt(Page::heirs).distinct().count() == 1) {
                    return set ? s.book.get(from).heirs() : length;
                }
            }
        }
        return set ? NONE : 0;
    }

    int which(int set) {
        if (!toldAll(set)) {
            return NONE;
        }
        int nights = 0;
        for (int i = 0; i < s.book.size(); i++) {
            nights |= s.book.get(i).heirs() == set ? 1 << i : 0;
        }
        return nights;
    }

    private int holdWith(Entry... more) {
        List<Entry> all = new ArrayList<>(s.log);
        all.addAll(List.of(more));
        return hold(all);
    }

    private static Entry falls(int who, int moment, boolean unused) {
        return new Entry(0, who, 0, moment);
    }

    private static boolean isFar(int moment) {
        return moment < 0 || moment > 999;
    }

    int whispered(int moment, int set) {
        if (isFar(moment) || !toldAll(set)) {
            return NONE;
        }
        return bits(g -> holdWith(falls(g, moment, true)) == set);
    }

    int twoWhispered(int first, int second, int set, int i) {
        if (isFar(first) || isFar(second) || !toldAll(set)) {
            return NONE;
        }
        List<Integer> twos = new ArrayList<>();
        for (int a = 0; a < s.guests.size(); a++) {
            for (int b = a + 1; b < s.guests.size(); b++) {
                if (holdWith(falls(a, first, true), falls(b, second, true)) == set
                        || holdWith(falls(b, first, true), falls(a, second, true)) == set) {
                    twos.add(8 * a + b);
                }
            }
        }
        return i == NONE ? twos.size() : i < 0 || i >= twos.size() ? NONE : twos.get(i);
    }

    int ifAsked(int moment) {
        return isFar(moment) ? NONE : holdWith(falls(8, moment, true));
    }

    int silence() {
        for (int t = s.moment - 1; t >= 0; t--) {
            int then = t;
            if (s.log.stream().anyMatch(e -> e.falls() == then)) {
                return s.moment - t;
            }
        }
        return s.moment + 1;
    }

    int byRank(int i) {
        List<Integer> order = new ArrayList<>();
        for (int rank = 9; rank >= 0; rank--) {
            for (int g = 0; g < s.guests.size(); g++) {
                if (s.guests.get(g).there && s.guests.get(g).rank == rank) {
                    order.add(g);
                }
            }
        }
        return i < 0 || i >= order.size() ? NONE : order.get(i);
    }

    int told(int g, int kind) {
        return !told(g) || kind < 0 || kind > 3 ? NONE : only(e -> e.who() == g && e.kind() == kind).size();
    }

    int meanDies(boolean low) {
        if (s.book.isEmpty()) {
            return NONE;
        }
        return (int) Odds.of(s.book.stream().mapToInt(Page::dies).sum(), s.book.size()).part(low);
    }

    int held(int g) {
        if (!told(g)) {
            return NONE;
        }
        int many = 0;
        for (int t = 0; t < s.moment; t++) {
            int then = t;
            many += hold(only(e -> e.falls() <= then)) >> g & 1;
        }
        return many;
    }

    int stays(int moment) {
        if (moment < s.moment || moment > 99) {
            return NONE;
        }
        State later = s.copy();
        State now = s;
        s = later;
        while (s.moment < moment) {
            passing();
        }
        int set = there();
        s = now;
        return set;
    }

    private int there() {
        return bits(g -> s.guests.get(g).there);
    }

    private int next(int[] more) {
        int best = NONE;
        for (int g = 0; g < s.guests.size(); g++) {
            if (!s.guests.get(g).there) {
                continue;
            }
            if (best == NONE) {
                best = g;
                continue;
            }
            int mine = s.guests.get(g).toasts + more[g];
            int its = s.guests.get(best).toasts + more[best];
            if (mine < its || mine == its && s.guests.get(g).rank > s.guests.get(best).rank) {
                best = g;
            }
        }
        return best;
    }

    int round(int n, int i) {
        if (n < 1 || n > 20 || i < 0 || i >= n || there() == 0) {
            return NONE;
        }
        int[] more = new int[8];
        for (int k = 0; k < i; k++) {
            more[next(more)]++;
        }
        return next(more);
    }

    int provoked(int guest, int moment) {
        if (!told(guest) || moment < 0 || moment > 99) {
            return NONE;
        }
        for (int g = 0; g < s.guests.size(); g++) {
            int other = g;
            if (g != guest && hold(only(e -> e.who() != other || e.moment() < moment)) == 1 << guest) {
                return g;
            }
        }
        return NONE;
    }

    /** All sets of THE LOG, if it is short; else by leaving the latest that FALLS one by one. */
    int unsaid(int guest) {
        if (!told(guest)) {
            return NONE;
        }
        int n = s.log.size();
        if (n > 12) {
            List<Entry> left = new ArrayList<>(s.log);
            for (int gone = 0; gone <= n; gone++) {
                if (hold(left) == 1 << guest) {
                    return gone;
                }
                int greatest = left.stream().mapToInt(Entry::falls).max().orElse(NONE);
                if (greatest == NONE) {
                    return NONE;
                }
                Entry worst = left.stream().filter(e -> e.falls() == greatest && e.who() != guest && e.who() != 8)
                        .findFirst().orElse(left.stream().filter(e -> e.falls() == greatest).findFirst().orElseThrow());
                left.remove(worst);
            }
            return NONE;
        }
        int fewest = NONE;
        for (int set = 0; set < 1 << n; set++) {
            List<Entry> left = new ArrayList<>();
            for (int i = 0; i < n; i++) {
                if ((set >> i & 1) == 0) {
                    left.add(s.log.get(i));
                }
            }
            if (hold(left) == 1 << guest && (fewest == NONE || Integer.bitCount(set) < fewest)) {
                fewest = Integer.bitCount(set);
            }
        }
        return fewest;
    }

    int nextToast() {
        return next(new int[8]);
    }

    boolean odds(int list, int moment, int p) {
        if (list < 0 || list > 1 || moment < 0 || moment > 5 || p < 0 || p > 100) {
            return false;
        }
        s.p[list][moment] = p;
        return true;
    }

    boolean falls(int moment, int set) {
        if (moment < 0 || moment > 5 || !toldAll(set)) {
            return false;
        }
        s.falls[moment] = set;
        return true;
    }

    private Odds gets(int g, int m, int list, int spoken) {
        return getsFrom(g, m, list, spoken, 0, holds(false));
    }

    private Odds getsFrom(int g, int m, int list, int spoken, int t, int holding) {
        if (t == m) {
            return Odds.ZERO;
        }
        int now = s.falls[t] | ((spoken >> t & 1) == 1 ? 1 << g : 0);
        int then = now == 0 ? holding : now;
        return Odds.of(s.p[list][t], 100).times(share(then, g))
                .plus(Odds.of(100 - s.p[list][t], 100).times(getsFrom(g, m, list, spoken, t + 1, then)));
    }

    private boolean canCome(int g, int m, int list, int what) {
        return told(g) && m >= 1 && m <= 6 && list >= 0 && list <= 1 && what >= 0 && what <= 2;
    }

    private int whenBest(int g, int m, int list) {
        int best = 0;
        for (int t = 1; t < m; t++) {
            best = gets(g, m, list, 1 << t).compare(gets(g, m, list, 1 << best)) > 0 ? t : best;
        }
        return best;
    }

    long when(int g, int m, int list, int what) {
        if (!canCome(g, m, list, what)) {
            return NONE;
        }
        int best = whenBest(g, m, list);
        return what == 0 ? best : gets(g, m, list, 1 << best).part(what == 2);
    }

    private int bestWords(int g, int m, int w, int list) {
        int best = 0;
        for (int many = 0; many <= w; many++) {
            for (int set = 0; set < 1 << m; set++) {
                if (Integer.bitCount(set) == many && gets(g, m, list, set).compare(gets(g, m, list, best)) > 0) {
                    best = set;
                }
            }
        }
        return best;
    }

    long words(int g, int m, int w, int list, int what) {
        if (!canCome(g, m, list, what) || w < 0 || w > 6) {
            return NONE;
        }
        int best = bestWords(g, m, w, list);
        return what == 0 ? best : gets(g, m, list, best).part(what == 2);
    }

    int fewest(int g, int m, int list, int q) {
        if (!canCome(g, m, list, 0) || q < 1 || q > 100) {
            return NONE;
        }
        for (int w = 0; w <= 6; w++) {
            if (gets(g, m, list, bestWords(g, m, w, list)).compare(Odds.of(q, 100)) >= 0) {
                return w;
            }
        }
        return NONE;
    }

    /** holding: bits of the two. */
    private Odds play(int m, int t, int holding, boolean first, boolean second) {
        if (t == m) {
            return Odds.ZERO;
        }
        Odds silent = answer(m, t, holding, first, second, false);
        if (!first) {
            return silent;
        }
        Odds speaks = answer(m, t, holding, false, second, true);
        return speaks.compare(silent) > 0 ? speaks : silent;
    }

    private Odds answer(int m, int t, int holding, boolean first, boolean second, boolean spoke) {
        Odds silent = then(m, t, spoke ? 1 : holding, first, second);
        if (!second) {
            return silent;
        }
        Odds speaks = then(m, t, spoke ? 3 : 2, first, false);
        return speaks.compare(silent) < 0 ? speaks : silent;
    }

    private Odds then(int m, int t, int holding, boolean first, boolean second) {
        Odds dies = Odds.of(s.p[0][t], 100);
        Odds difference = share(holding, 0).less(share(holding, 1));
        return dies.times(difference).plus(Odds.SURE.less(dies).times(play(m, t + 1, holding, first, second)));
    }

    long game(int m, int what) {
        if (m < 1 || m > 5 || what < 0 || what > 2) {
            return -2;
        }
        if (what < 2) {
            return play(m, 0, 0, true, true).part(what == 1);
        }
        return answer(m, 0, 0, false, true, true).compare(answer(m, 0, 0, true, true, false)) > 0 ? 1 : 0;
    }

    long cough(int g, int m, int q, boolean low) {
        if (!canCome(g, m, 0, 0) || q < 0 || q > 10) {
            return NONE;
        }
        Odds so = Odds.of(q, 10);
        Odds other = Odds.of(10 - q, 10);
        Odds known = so.times(gets(g, m, 0, 1 << whenBest(g, m, 0)))
                .plus(other.times(gets(g, m, 1, 1 << whenBest(g, m, 1))));
        Odds blind = Odds.ZERO;
        for (int t = 0; t < m; t++) {
            Odds it = so.times(gets(g, m, 0, 1 << t)).plus(other.times(gets(g, m, 1, 1 << t)));
            blind = it.compare(blind) > 0 ? it : blind;
        }
        return known.less(blind).part(low);
    }

    int image() {
        image = s.copy();
        return s.night;
    }

    int back() {
        s = image.copy();
        return s.night;
    }

    int about(int what) {
        int[] all = {s.guests.size(), s.night, s.moment, s.wine, s.x, s.texts.size(), s.ruling, s.steps.size(),
            there(), tape.size()};
        return what < 0 || what > 9 ? -2 : all[what];
    }
}
