/** Promises 39 to 45: the ODDS to come. */
public final class AheadTest {
    public static void main(String[] args) {
        told();
        when();
        whoHoldsNow();
        words();
        fewest();
        game();
        cough();
        Due.finish();
    }

    private static LastWordAt table(int guests) {
        LastWordAt x = new LastWordAt();
        for (int g = 0; g < guests; g++) {
            x.guest(g, 5, -1);
        }
        return x;
    }

    private static void list(LastWordAt x, int list, int... p) {
        for (int t = 0; t < p.length; t++) {
            Due.due("odds", x.odds(list, t, p[t]), true);
        }
    }

    private static void fraction(String what, long up, long low, long wantUp, long wantLow) {
        Due.due(what + " upper", up, wantUp);
        Due.due(what + " lower", low, wantLow);
    }

    private static void told() {
        LastWordAt x = table(2);
        Due.due("list -1", x.odds(-1, 0, 1), false);
        Due.due("list 2", x.odds(2, 0, 1), false);
        Due.due("moment -1", x.odds(0, -1, 1), false);
        Due.due("moment 6", x.odds(0, 6, 1), false);
        Due.due("p -1", x.odds(0, 0, -1), false);
        Due.due("p 101", x.odds(0, 0, 101), false);
        Due.due("p 100", x.odds(1, 5, 100), true);
        Due.due("p 0", x.odds(1, 5, 0), true);
        Due.due("falls -1", x.falls(-1, 1), false);
        Due.due("falls 6", x.falls(6, 1), false);
        Due.due("not told", x.falls(0, 4), false);
        Due.due("below", x.falls(0, -1), false);
        Due.due("falls", x.falls(5, 3), true);
        Due.due("none falls", x.falls(5, 0), true);
        Due.due("it is no step", x.about(7), 0);
    }

    private static void when() {
        LastWordAt x = table(3);
        // At first 10 each: at once is best, 1 - (9/10)^2.
        Due.due("at once", x.when(0, 2, 0, 0), 0);
        fraction("at once", x.when(0, 2, 0, 1), x.when(0, 2, 0, 2), 19, 100);
        fraction("six", x.when(0, 6, 1, 1), x.when(0, 6, 1, 2), 468559, 1000000);
        x.falls(1, 6);
        // At once 1/10; at 1: 9/10 * 1/10 / 3; at 2: 81/100 * 1/10.
        Due.due("at once", x.when(0, 3, 0, 0), 0);
        list(x, 0, 0, 0, 50, 50, 100, 0);
        Due.due("the second", x.when(0, 2, 0, 0), 0);
        fraction("nothing", x.when(0, 2, 0, 1), x.when(0, 2, 0, 2), 0, 1);
        Due.due("the third", x.when(0, 4, 0, 0), 2);
        fraction("the third", x.when(0, 4, 0, 1), x.when(0, 4, 0, 2), 3, 4);
        Due.due("guest 1 holds in it", x.when(1, 3, 0, 0), 2);
        x.falls(2, 7);
        Due.due("three share", x.when(0, 3, 0, 0), 0);
        fraction("three share", x.when(0, 3, 0, 1), x.when(0, 3, 0, 2), 1, 6);
        Due.due("the other list", x.when(0, 3, 1, 0), 0);
        Due.due("guest 3", x.when(3, 3, 0, 0), -1);
        Due.due("guest -1", x.when(-1, 3, 0, 0), -1);
        Due.due("m 0", x.when(0, 0, 0, 0), -1);
        Due.due("m 7", x.when(0, 7, 0, 0), -1);
        Due.due("list 2", x.when(0, 3, 2, 0), -1);
        Due.due("list -1", x.when(0, 3, -1, 0), -1);
        Due.due("what 3", x.when(0, 3, 0, 3), -1);
        Due.due("what -1", x.when(0, 3, 0, -1), -1);
    }

    private static void whoHoldsNow() {
        LastWordAt x = table(2);
        x.say(0, 0);
        list(x, 0, 50, 50);
        // It doesn't HOLD before the MOMENT is over.
        fraction("not yet", x.words(0, 1, 0, 0, 1), x.words(0, 1, 0, 0, 2), 0, 1);
        x.pass(1);
        fraction("it holds", x.words(0, 2, 0, 0, 1), x.words(0, 2, 0, 0, 2), 3, 4);
        fraction("knowing is worth nothing", x.cough(0, 2, 5, false), x.cough(0, 2, 5, true), 0, 1);
        Due.due("no word is needed", x.fewest(0, 2, 0, 75), 0);
        Due.due("a word is needed", x.fewest(1, 2, 0, 75), 1);
        Due.due("it may speak at any time", x.when(0, 2, 0, 0), 0);
        fraction("the other speaks at once", x.when(1, 2, 0, 1), x.when(1, 2, 0, 2), 3, 4);
        x.falls(0, 2);
        fraction("the other falls", x.words(0, 2, 0, 0, 1), x.words(0, 2, 0, 0, 2), 0, 1);
    }

    private static void words() {
        LastWordAt x = table(3);
        list(x, 0, 50, 50, 50, 0, 0, 0);
        x.falls(1, 2);
        Due.due("none", x.words(0, 3, 0, 0, 0), 0);
        fraction("none", x.words(0, 3, 0, 0, 1), x.words(0, 3, 0, 0, 2), 0, 1);
        Due.due("one", x.words(0, 3, 1, 0, 0), 1);
        Due.due("two", x.words(0, 3, 2, 0, 0), 3);
        // 1/2 + 1/8 + 1/16 by 0, 1; by 0 and 2 it is 1/2 + 1/8.
        fraction("two", x.words(0, 3, 2, 0, 1), x.words(0, 3, 2, 0, 2), 11, 16);
        Due.due("three", x.words(0, 3, 3, 0, 0), 7);
        Due.due("six of six", x.words(0, 6, 6, 0, 0), 7);
        fraction("six of six", x.words(0, 6, 6, 0, 1), x.words(0, 6, 6, 0, 2), 3, 4);
        Due.due("more words than moments", x.words(0, 1, 6, 0, 0), 1);
        list(x, 0, 0, 0, 0);
        Due.due("the fewest", x.words(0, 6, 6, 0, 0), 0);
        list(x, 0, 0, 0, 100);
        Due.due("the lowest", x.words(2, 3, 3, 0, 0), 4);
        x.falls(1, 0);
        Due.due("the lowest", x.words(2, 3, 3, 0, 0), 1);
        Due.due("w -1", x.words(0, 3, -1, 0, 0), -1);
        Due.due("w 7", x.words(0, 3, 7, 0, 0), -1);
        Due.due("guest 3", x.words(3, 3, 1, 0, 0), -1);
        Due.due("m 0", x.words(0, 0, 1, 0, 0), -1);
        Due.due("m 7", x.words(0, 7, 1, 0, 0), -1);
        Due.due("list 2", x.words(0, 3, 1, 2, 0), -1);
        Due.due("what 3", x.words(0, 3, 1, 0, 3), -1);
        Due.due("what -1", x.words(0, 3, 1, 0, -1), -1);
    }

    private static void fewest() {
        LastWordAt x = table(2);
        list(x, 0, 50, 50, 100);
        x.falls(1, 2);
        x.falls(2, 2);
        // One: 1/2; two: by 0 and 1 1/2 + 1/8, by 0 and 2 1/2 + 1/8; three: 1/2 + 1/8 + 1/8.
        Due.due("fewest 1", x.fewest(0, 3, 0, 1), 1);
        Due.due("fewest 50", x.fewest(0, 3, 0, 50), 1);
        Due.due("fewest 51", x.fewest(0, 3, 0, 51), 2);
        Due.due("fewest 62", x.fewest(0, 3, 0, 62), 2);
        Due.due("fewest 63", x.fewest(0, 3, 0, 63), 3);
        Due.due("fewest 75", x.fewest(0, 3, 0, 75), 3);
        Due.due("fewest 76", x.fewest(0, 3, 0, 76), -1);
        Due.due("none is needed", x.fewest(1, 3, 0, 50), 0);
        Due.due("sure", x.fewest(1, 3, 0, 100), 1);
        Due.due("q 0", x.fewest(0, 3, 0, 0), -1);
        Due.due("q 101", x.fewest(1, 3, 0, 101), -1);
        Due.due("guest 2", x.fewest(2, 3, 0, 1), -1);
        Due.due("m 0", x.fewest(0, 0, 0, 1), -1);
        Due.due("m 7", x.fewest(0, 7, 0, 1), -1);
        Due.due("list 2", x.fewest(0, 3, 2, 1), -1);
        Due.due("list -1", x.fewest(0, 3, -1, 1), -1);
    }

    private static void game() {
        LastWordAt x = new LastWordAt();
        list(x, 1, 100, 100, 100, 100, 100, 100);
        list(x, 0, 100);
        fraction("both at once", x.game(1, 0), x.game(1, 1), 0, 1);
        Due.due("speaks", x.game(1, 2), 1);
        list(x, 0, 0, 100);
        // The first waits: whoever speaks first loses; in the last both speak.
        fraction("both wait", x.game(2, 0), x.game(2, 1), 0, 1);
        Due.due("silent", x.game(2, 2), 0);
        list(x, 0, 0, 0);
        Due.due("silent of like ones", x.game(2, 2), 0);
        for (int m = 1; m <= 5; m++) {
            for (int seed = 0; seed < 60; seed++) {
                x = new LastWordAt();
                int[] p = new int[5];
                for (int t = 0; t < 5; t++) {
                    p[t] = (seed * 37 + t * t * 29 + seed * t * 17) % 101;
                }
                list(x, 0, p);
                long want = value(p, m, 0, 0, true, true);
                long hundreds = 1;
                for (int t = 0; t < m; t++) {
                    hundreds *= 100;
                }
                long common = java.math.BigInteger.valueOf(want).gcd(java.math.BigInteger.valueOf(hundreds)).longValue();
                fraction("game " + m + " " + seed, x.game(m, 0), x.game(m, 1), want / common, hundreds / common);
                long silent = second(p, m, 0, 0, true, true, false);
                long speaks = second(p, m, 0, 0, false, true, true);
                Due.due("speaks " + m + " " + seed, x.game(m, 2), speaks > silent ? 1 : 0);
            }
        }
        Due.due("m 0", x.game(0, 0), -2);
        Due.due("m 6", x.game(6, 0), -2);
        Due.due("what 3", x.game(1, 3), -2);
        Due.due("what -1", x.game(1, -1), -2);
    }

    /** By all that can be played, from the first MOMENT on; holding: 0 nobody or both, 1, -1. */
    private static long value(int[] p, int m, int t, int holding, boolean first, boolean second) {
        if (t == m) {
            return 0;
        }
        long silent = second(p, m, t, holding, first, second, false);
        return first ? Math.max(silent, second(p, m, t, holding, false, second, true)) : silent;
    }

    private static long second(int[] p, int m, int t, int holding, boolean first, boolean second, boolean spoke) {
        long silent = after(p, m, t, spoke ? 1 : holding, first, second);
        return second ? Math.min(silent, after(p, m, t, spoke ? 0 : -1, first, false)) : silent;
    }

    private static long after(int[] p, int m, int t, int holding, boolean first, boolean second) {
        long unit = 1;
        for (int i = t + 1; i < m; i++) {
            unit *= 100;
        }
        return p[t] * holding * unit + (100 - p[t]) * value(p, m, t + 1, holding, first, second);
    }

    private static void cough() {
        LastWordAt x = table(2);
        // By the first list he dies in 0, by the second in 1, in which another one FALLS.
        list(x, 0, 100, 0);
        list(x, 1, 0, 100);
        x.falls(1, 2);
        // Known: 1/2 * 1 + 1/2 * 1/2; not: at once 1/2, else 1/4.
        fraction("half", x.cough(0, 2, 5, false), x.cough(0, 2, 5, true), 1, 4);
        // Known: 1/10 + 9/20; not: at 1 9/20.
        fraction("q 1", x.cough(0, 2, 1, false), x.cough(0, 2, 1, true), 1, 10);
        fraction("q 0", x.cough(0, 2, 0, false), x.cough(0, 2, 0, true), 0, 1);
        fraction("q 10", x.cough(0, 2, 10, false), x.cough(0, 2, 10, true), 0, 1);
        Due.due("q -1", x.cough(0, 2, -1, false), -1);
        Due.due("q 11", x.cough(0, 2, 11, false), -1);
        Due.due("guest 2", x.cough(2, 2, 5, false), -1);
        Due.due("guest -1", x.cough(-1, 2, 5, false), -1);
        Due.due("m 0", x.cough(0, 0, 5, false), -1);
        Due.due("m 7", x.cough(0, 7, 5, false), -1);
    }
}
