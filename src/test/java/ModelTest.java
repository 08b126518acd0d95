import java.nio.charset.StandardCharsets;
import java.util.Random;

/** Runs of drawn calls, each answered by the class and by the model; the seeds are fixed. */
public final class ModelTest {
    private static final int RUNS = 400;
    /** Some way below 512, as a step of a run may take several calls. */
    private static final int CALLS = 450;

    private final Random random;
    private final LastWordAt x = new LastWordAt();
    private final Model model = new Model();
    private final String run;

    private ModelTest(int seed) {
        random = new Random(seed);
        run = "run " + seed + ": ";
    }

    public static void main(String[] args) {
        int runs = args.length > 0 ? Integer.parseInt(args[0]) : RUNS;
        for (int seed = 0; seed < runs; seed++) {
            new ModelTest(seed).go(seed % 4);
        }
        Due.finish();
    }

    private void go(int mode) {
        int guests = random.nextInt(9);
        for (int i = 0; i < guests; i++) {
            guest();
        }
        if (mode == 0) {
            due("image", x.image(), model.image());
        }
        int calls = guests + 1;
        while (calls < CALLS) {
            int kind = random.nextInt(100);
            if (mode == 0 && model.about(5) == 4 && random.nextInt(4) > 0) {
                // With 4 TEXTS none is read any more.
                calls++;
                due("back", x.back(), model.back());
            } else if (kind < (mode == 0 ? 30 : 3)) {
                calls += readText();
            } else if (kind < 50) {
                calls++;
                act(mode);
            } else {
                calls++;
                look();
            }
        }
    }

    private int in(int from, int to) {
        // Now and then a number beyond what is told.
        if (random.nextInt(40) == 0) {
            int[] odd = {from - 1, to + 1, Integer.MIN_VALUE, Integer.MAX_VALUE, -2, 1000};
            return odd[random.nextInt(odd.length)];
        }
        return from + random.nextInt(to - from + 1);
    }

    private int aGuest() {
        int many = model.about(0);
        return in(0, Math.max(0, many - 1));
    }

    private int aSet() {
        return in(0, (1 << model.about(0)) - 1);
    }

    private void due(String call, long got, long want) {
        Due.due(run + call, got, want);
    }

    private void due(String call, boolean got, boolean want) {
        Due.due(run + call, got, want);
    }

    private void guest() {
        int rank = in(0, 9);
        int hears = in(0, 9);
        int goes = random.nextBoolean() ? -1 : in(0, random.nextInt(100));
        due("guest", x.guest(rank, hears, goes), model.guest(rank, hears, goes));
    }

    private int readText() {
        byte[] text = new Texts(random).text().getBytes(StandardCharsets.ISO_8859_1);
        int calls = 0;
        due("end(0)", x.end(0), model.end(0));
        for (int at = 0; at < text.length && at < 300; at += 20) {
            int[] a = new int[5];
            for (int i = 0; i < 20; i++) {
                a[i / 4] |= (at + i < text.length ? text[at + i] & 255 : 0) << 24 - 8 * (i % 4);
            }
            due("feed", x.feed(a[0], a[1], a[2], a[3], a[4]), model.feed(a[0], a[1], a[2], a[3], a[4]));
            calls++;
        }
        int length = Math.min(300, text.length);
        due("end", x.end(length), model.end(length));
        String what = new String(text, StandardCharsets.ISO_8859_1);
        int number = model.text();
        due("text " + what, x.text(), number);
        due("fault(0) " + what, x.fault(0), model.fault(0));
        due("fault(1) " + what, x.fault(1), model.fault(1));
        return calls + 5 + (number == -1 ? 0 : rule(number, what));
    }

    /** What its laws say of each GUEST now, and of tonight if it ended. */
    private int rule(int number, String what) {
        due("by", x.by(number), model.by(number));
        for (int g = 0; g < model.about(0); g++) {
            due("of(" + g + ", 7) by " + what, x.of(g, 7), model.of(g, 7));
        }
        if (random.nextBoolean()) {
            return 1 + model.about(0);
        }
        due("dinner by " + what, x.dinner(), model.dinner());
        int last = model.book(-1, 0) - 1;
        due("dies by " + what, x.book(last, 2), model.book(last, 2));
        due("undo", x.undo(), model.undo());
        return 4 + model.about(0);
    }

    private void act(int mode) {
        int g = aGuest();
        switch (random.nextInt(mode == 1 ? 16 : 24)) {
            case 0, 1, 2, 3, 16, 17, 18, 19 -> {
                int kind = random.nextInt(6) == 0 ? in(0, 3) : in(0, 2);
                due("say", x.say(g, kind), model.say(g, kind));
            }
            case 4 -> due("ask", x.ask(), model.ask());
            case 5, 6, 20, 21 -> {
                int n = random.nextInt(10) == 0 ? in(1, 60) : in(1, 3);
                due("pass", x.pass(n), model.pass(n));
            }
            case 7 -> due("send", x.send(g), model.send(g));
            case 8 -> due("dinner", x.dinner(), model.dinner());
            case 9 -> {
                int t = in(0, 3);
                due("played", x.played(t), model.played(t));
            }
            case 10 -> {
                int seed = in(0, 9999);
                int n = in(1, 40);
                due("years", x.years(seed, n), model.years(seed, n));
            }
            case 11, 22 -> due("undo", x.undo(), model.undo());
            case 12 -> {
                int t = in(-1, 3);
                due("by", x.by(t), model.by(t));
            }
            case 13 -> {
                int list = in(0, 1);
                int t = in(0, 5);
                int[] some = {0, 10, 25, 50, 100};
                int p = random.nextBoolean() ? some[random.nextInt(5)] : in(0, 100);
                due("odds", x.odds(list, t, p), model.odds(list, t, p));
            }
            case 14 -> {
                int t = in(0, 5);
                int set = random.nextBoolean() ? 0 : aSet();
                due("falls", x.falls(t, set), model.falls(t, set));
            }
            case 15 -> {
                switch (random.nextInt(4)) {
                    case 0 -> due("image", x.image(), model.image());
                    case 1 -> due("back", x.back(), model.back());
                    default -> guest();
                }
            }
            default -> due("undo", x.undo(), model.undo());
        }
    }

    private void look() {
        if (random.nextBoolean()) {
            lookAround();
        } else if (random.nextBoolean()) {
            lookBack();
        } else {
            lookAhead();
        }
    }

    private void lookAround() {
        int g = aGuest();
        int what = in(0, 7);
        int moment = in(0, Math.max(1, model.about(2) + 5));
        int second = in(0, Math.max(1, model.about(2) + 5));
        int i = in(-1, 3);
        int set = random.nextBoolean() ? model.holds(true) : aSet();
        switch (random.nextInt(18)) {
            case 0 -> due("of", x.of(g, what), model.of(g, what));
            case 1 -> due("of(.., 7)", x.of(g, 7), model.of(g, 7));
            case 2 -> due("holds", x.holds(false), model.holds(false));
            case 3 -> due("holds later", x.holds(true), model.holds(true));
            case 4 -> {
                int k = in(-1, 40);
                int w = in(0, 3);
                due("log", x.log(k, w), model.log(k, w));
            }
            case 5 -> due("whispered", x.whispered(moment, set), model.whispered(moment, set));
            case 6, 7 -> due("twoWhispered", x.twoWhispered(moment, second, set, i),
                    model.twoWhispered(moment, second, set, i));
            case 8 -> due("ifAsked", x.ifAsked(moment), model.ifAsked(moment));
            case 9 -> due("silence", x.silence(), model.silence());
            case 10 -> due("byRank", x.byRank(i), model.byRank(i));
            case 11 -> due("told", x.told(g, i), model.told(g, i));
            case 12 -> due("held", x.held(g), model.held(g));
            case 13 -> due("stays", x.stays(moment), model.stays(moment));
            case 14 -> {
                int n = in(1, 20);
                int k = in(0, 19);
                due("round", x.round(n, k), model.round(n, k));
            }
            case 15 -> due("provoked", x.provoked(g, moment), model.provoked(g, moment));
            case 16 -> due("unsaid", x.unsaid(g), model.unsaid(g));
            default -> {
                due("nextToast", x.nextToast(), model.nextToast());
                int k = in(0, 9);
                due("about(" + k + ")", x.about(k), model.about(k));
            }
        }
    }

    private void lookBack() {
        int g = aGuest();
        int n = in(1, 6);
        int i = in(0, 5);
        boolean low = random.nextBoolean();
        int k = in(-1, 19);
        int what = in(0, 2);
        int set = random.nextBoolean() ? model.book(model.book(-1, 0) - 1, 1) : aSet();
        switch (random.nextInt(9)) {
            case 0 -> due("book", x.book(k, what), model.book(k, what));
            case 1, 2 -> due("inherits", x.inherits(g, n, low), model.inherits(g, n, low));
            case 3 -> due("open", x.open(n, low), model.open(n, low));
            case 4 -> due("thatNight", x.thatNight(set, n, i, low), model.thatNight(set, n, i, low));
            case 5 -> due("tally", x.tally(g, low), model.tally(g, low));
            case 6 -> due("longest", x.longest(low), model.longest(low));
            case 7 -> due("which", x.which(set), model.which(set));
            default -> due("meanDies", x.meanDies(low), model.meanDies(low));
        }
    }

    private void lookAhead() {
        int g = aGuest();
        int m = in(1, 6);
        int list = in(0, 1);
        int what = in(0, 2);
        int w = in(0, 6);
        int q = in(1, 100);
        switch (random.nextInt(6)) {
            case 0 -> due("when", x.when(g, m, list, what), model.when(g, m, list, what));
            case 1 -> due("words", x.words(g, m, w, list, what), model.words(g, m, w, list, what));
            case 2 -> due("fewest", x.fewest(g, m, list, q), model.fewest(g, m, list, q));
            case 3 -> due("game", x.game(m, what), model.game(m, what));
            case 4 -> due("cough", x.cough(g, m, w, true), model.cough(g, m, w, true));
            default -> due("cough", x.cough(g, m, w + 4, false), model.cough(g, m, w + 4, false));
        }
    }

    /** TEXTS drawn by the grammar, at times with a wrong sign, name or number. */
    private static final class Texts {
        private static final String[] ALL = {"night", "moment", "wine"};
        private static final String[] SPEAKER = {"rank", "hears", "kind", "words", "since", "guests", "has"};
        private static final String[] DINNER = {"said", "heirs"};
        private static final String[] ODD = {";", ":", "(", ")", "not", "-", "choose", "case", "to", "else", "end", "?",
            "10000", "9999", "61", "8", "or", "and", "<", "=", "foo", "lag", "counts", "dies", "ask;", "hears", "said",
            "\t", "" + (char) 200};

        private final Random random;
        private final StringBuilder b = new StringBuilder();
        private final boolean wrong;
        private final boolean deep;
        private boolean dies = false;

        Texts(Random random) {
            this.random = random;
            wrong = random.nextInt(3) == 0;
            deep = random.nextInt(6) == 0;
        }

        String text() {
            int many = random.nextInt(8) == 0 ? 20 + random.nextInt(8) : 1 + random.nextInt(7);
            String[] laws = {"counts", "lag", "dies"};
            boolean[] had = new boolean[3];
            for (int i = 0; i < many; i++) {
                int law = random.nextInt(many < 8 ? 5 : 12);
                if (law < 3 && (!had[law] || random.nextInt(10) == 0)) {
                    had[law] = true;
                    put(laws[law]);
                    dies = law == 2;
                    if (law == 0) {
                        either();
                    } else {
                        sum(0);
                    }
                } else {
                    deed();
                }
                put(";");
            }
            return b.substring(0, Math.min(b.length(), 300));
        }

        private void put(String token) {
            if (wrong && random.nextInt(25) == 0) {
                token = ODD[random.nextInt(ODD.length)];
            } else if (wrong && random.nextInt(40) == 0) {
                return;
            }
            boolean glued = b.length() > 0 && Character.isLetterOrDigit(b.charAt(b.length() - 1))
                    && Character.isLetterOrDigit(token.charAt(0));
            if (glued || random.nextInt(6) == 0) {
                b.append(random.nextInt(5) == 0 ? "\n" : " ");
            }
            b.append(token);
        }

        private void deed() {
            String[] deeds = {"guest", "say", "oh", "toast", "bye", "ask", "pass", "send", "dinner"};
            String deed = deeds[random.nextInt(random.nextInt(4) == 0 ? 9 : 7)];
            put(deed);
            switch (deed) {
                case "guest" -> {
                    put("" + random.nextInt(10));
                    put("hears");
                    put("" + random.nextInt(10));
                }
                case "ask", "dinner" -> {
                }
                case "pass" -> put("" + (1 + random.nextInt(random.nextInt(4) == 0 ? 60 : 4)));
                default -> put("" + random.nextInt(random.nextInt(6) == 0 ? 8 : 4));
            }
        }

        private void either() {
            ask();
            while (random.nextInt(3) == 0) {
                put(random.nextBoolean() ? "or" : "and");
                ask();
            }
        }

        private void ask() {
            while (deep ? random.nextInt(4) > 0 : random.nextInt(4) == 0) {
                put("not");
            }
            sum(0);
            String[] ops = {"<", "<=", ">", ">=", "=", "#"};
            put(ops[random.nextInt(6)]);
            sum(0);
        }

        private void sum(int depth) {
            product(depth);
            while (random.nextInt(4) == 0) {
                put(random.nextBoolean() ? "+" : "-");
                product(depth);
            }
        }

        private void product(int depth) {
            one(depth);
            while (random.nextInt(5) == 0) {
                put(random.nextBoolean() ? "*" : "/");
                one(depth);
            }
        }

        private void one(int depth) {
            // Deep ones go to the 8th of ( not choose and - that are open, and at times beyond.
            int kind = deep && depth < 9 && random.nextInt(8) > 0 ? 6 + random.nextInt(2) : random.nextInt(depth > 10 ? 6 : 11);
            if (kind < 3) {
                put("" + random.nextInt(random.nextInt(5) == 0 ? 10000 : 12));
            } else if (kind < 6) {
                name();
            } else if (kind == 6) {
                put("(");
                sum(depth + 1);
                put(")");
            } else if (kind == 7 || depth > 2 && random.nextBoolean()) {
                put("-");
                one(depth + 1);
            } else {
                choose(depth + 1);
            }
        }

        private void name() {
            boolean other = wrong && random.nextInt(12) == 0;
            String[] own = dies != other ? DINNER : SPEAKER;
            String[] names = random.nextInt(3) == 0 ? ALL : own;
            put(names[random.nextInt(names.length)]);
        }

        private void choose(int depth) {
            put("choose");
            sum(depth + 4);
            int cases = random.nextInt(12) == 0 ? 7 : 1 + random.nextInt(3);
            for (int i = 0; i < cases; i++) {
                put("case");
                int from = random.nextInt(6);
                put("" + from);
                if (random.nextInt(3) == 0) {
                    put("to");
                    put("" + Math.max(0, from + random.nextInt(8) - (wrong && random.nextInt(6) == 0 ? 7 : 0)));
                }
                put(":");
                sum(depth + 4);
            }
            put("else");
            sum(depth + 4);
            put("end");
        }
    }
}
