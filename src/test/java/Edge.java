/** What the tests of boundary cases share: tables, laws, and all that can be seen of an object. */
final class Edge {
    static final int MIN = Integer.MIN_VALUE;
    static final int MAX = Integer.MAX_VALUE;

    private Edge() {
    }

    /** GUESTS that hear well (their words FALL at once) and have no carriage; RANK is the number. */
    static LastWordAt table(int guests) {
        LastWordAt x = new LastWordAt();
        for (int g = 0; g < guests; g++) {
            x.guest(g, 5, -1);
        }
        return x;
    }

    /** The text is read and rules; its number. */
    static int rule(LastWordAt x, String text) {
        int number = Due.read(x, text);
        Due.due("by " + text, x.by(number), true);
        return number;
    }

    static void list(LastWordAt x, int list, int... p) {
        for (int t = 0; t < p.length; t++) {
            Due.due("odds(" + list + ", " + t + ", " + p[t] + ")", x.odds(list, t, p[t]), true);
        }
    }

    static void fraction(String what, long up, long low, long wantUp, long wantLow) {
        Due.due(what + ", the upper one", up, wantUp);
        Due.due(what + ", the lower one", low, wantLow);
    }

    /** At the last NIGHT: it has GUESTS as told, one TEXT and a full book. */
    static void toNight(LastWordAt x, int night) {
        int number = Due.read(x, "dinner;".repeat(24));
        for (int i = 0; i < 60 && x.about(1) + 24 <= night; i++) {
            x.played(number);
        }
        for (int i = 0; i < 24 && x.about(1) < night; i++) {
            x.dinner();
        }
        Due.due("NIGHT", x.about(1), night);
    }

    /** The calls leave all as it is, the tape and the FAULT too. */
    static void untouched(String what, LastWordAt x, Runnable calls) {
        String ahead = all(x);
        calls.run();
        Due.same("nothing is done by " + what, all(x), ahead);
    }

    static String all(LastWordAt x) {
        return imaged(x) + " tape " + x.about(9) + " fault " + x.fault(0) + " " + x.fault(1);
    }

    /** All that an image keeps, as far as it can be seen. */
    static String imaged(LastWordAt x) {
        int guests = x.about(0);
        StringBuilder b = new StringBuilder(tonight(x)).append(" told");
        for (int g = 0; g < guests; g++) {
            for (int what : new int[] {0, 1, 2, 7}) {
                b.append(' ').append(x.of(g, what));
            }
        }
        b.append(" texts ").append(x.about(5)).append(' ').append(x.about(6));
        ahead(x, guests, b);
        return b.toString();
    }

    /** What a STEP changes. */
    static String tonight(LastWordAt x) {
        StringBuilder b = new StringBuilder("about");
        for (int what : new int[] {0, 1, 2, 3, 4, 7, 8}) {
            b.append(' ').append(x.about(what));
        }
        int guests = x.about(0);
        for (int g = 0; g < guests; g++) {
            b.append(" of ").append(g);
            for (int what = 4; what <= 6; what++) {
                b.append(' ').append(x.of(g, what));
            }
        }
        written(x, b);
        return b.toString();
    }

    private static void written(LastWordAt x, StringBuilder b) {
        int log = x.log(-1, 0);
        for (int i = 0; i < log; i++) {
            b.append(" log");
            for (int what = 0; what <= 3; what++) {
                b.append(' ').append(x.log(i, what));
            }
        }
        int book = x.book(-1, 0);
        for (int i = 0; i < book; i++) {
            b.append(" book");
            for (int what = 0; what <= 2; what++) {
                b.append(' ').append(x.book(i, what));
            }
        }
    }

    private static void ahead(LastWordAt x, int guests, StringBuilder b) {
        b.append(" ahead");
        for (int list = 0; list <= 1; list++) {
            for (int m = 1; m <= 6; m++) {
                b.append(' ').append(x.when(0, m, list, 1)).append('/').append(x.when(0, m, list, 2));
            }
        }
        for (int g = 0; g < guests; g++) {
            b.append(' ').append(x.words(g, 6, 0, 0, 1)).append('/').append(x.words(g, 6, 0, 0, 2));
        }
    }
}
