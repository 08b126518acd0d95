/** Promises 39 to 45: the ODDS to come. */
final class EdgesAhead {
    private static final int[] NO_GUESTS = {2, 8, -1, Edge.MIN, Edge.MAX};
    private static final int[] NO_M = {0, 7, -1, Edge.MIN, Edge.MAX};
    private static final int[] NO_LIST = {2, -1, Edge.MIN, Edge.MAX};
    private static final int[] NO_WHAT = {3, -1, Edge.MIN, Edge.MAX};

    private EdgesAhead() {
    }

    private static void when(LastWordAt x, int guest, int m, int list, long... want) {
        String call = "when(" + guest + ", " + m + ", " + list + ")";
        Due.due(call, x.when(guest, m, list, 0), want[0]);
        Edge.fraction(call, x.when(guest, m, list, 1), x.when(guest, m, list, 2), want[1], want[2]);
    }

    private static void words(LastWordAt x, int guest, int m, int w, long... want) {
        String call = "words(" + guest + ", " + m + ", " + w + ")";
        Due.due(call, x.words(guest, m, w, 0, 0), want[0]);
        Edge.fraction(call, x.words(guest, m, w, 0, 1), x.words(guest, m, w, 0, 2), want[1], want[2]);
    }

    // ---- 39: odds ----

    @Says(promise = 39, words = "ODDS (list 0, 1) of a MOMENT 0 .. 5: true.")
    static void theFirstAndTheLastOdds() {
        LastWordAt x = Edge.table(1);
        for (int list = 0; list <= 1; list++) {
            for (int t = 0; t <= 5; t++) {
                Due.due("odds", x.odds(list, t, 0), true);
            }
            Due.due("p 100 in the last", x.odds(list, 5, 100), true);
            when(x, 0, 5, list, 0, 0, 1);
            when(x, 0, 6, list, 0, 1, 1);
        }
        Due.due("p 100 in the first", x.odds(1, 0, 100), true);
        when(x, 0, 1, 1, 0, 1, 1);
        when(x, 0, 1, 0, 0, 0, 1);
        Due.due("it is no STEP", x.about(7), 0);
    }

    @Says(promise = 39, words = "False for others.")
    static void otherOdds() {
        LastWordAt x = Edge.table(1);
        Edge.untouched("others", x, () -> {
            for (int list : NO_LIST) {
                Due.due("list " + list, x.odds(list, 0, 50), false);
            }
            for (int moment : new int[] {6, -1, Edge.MIN, Edge.MAX}) {
                Due.due("MOMENT " + moment, x.odds(0, moment, 50), false);
                Due.due("MOMENT " + moment, x.odds(1, moment, 50), false);
            }
            for (int p : new int[] {101, -1, Edge.MIN, Edge.MAX}) {
                Due.due("p " + p, x.odds(0, 0, p), false);
                Due.due("p " + p, x.odds(1, 5, p), false);
            }
        });
    }

    @Says(promise = 39, words = "at its end he dies with p out of 100 (told; at first 10)")
    static void oddsAtFirst() {
        LastWordAt x = Edge.table(1);
        long low = 1;
        long lives = 1;
        for (int m = 1; m <= 6; m++) {
            low *= 10;
            lives *= 9;
            when(x, 0, m, 0, 0, low - lives, low);
            when(x, 0, m, 1, 0, low - lives, low);
        }
    }

    @Says(promise = 39, words = "There are two such lists of p (0 and 1).")
    static void oneListLeavesTheOther() {
        LastWordAt x = Edge.table(1);
        Edge.list(x, 0, 20);
        Edge.list(x, 1, 30);
        when(x, 0, 1, 0, 0, 1, 5);
        when(x, 0, 1, 1, 0, 3, 10);
    }

    // ---- 40: falls ----

    @Says(promise = 40, words = "Who FALLS in a MOMENT 0 .. 5 to come (bits): true.")
    static void theFirstAndTheLastToFall() {
        LastWordAt x = Edge.table(8);
        Edge.list(x, 0, 0, 0, 0, 0, 0, 100);
        Due.due("all, in the last", x.falls(5, 255), true);
        words(x, 7, 6, 0, 0, 1, 8);
        Due.due("none, in the last", x.falls(5, 0), true);
        words(x, 7, 6, 0, 0, 0, 1);
        Due.due("one, in the first", x.falls(0, 128), true);
        words(x, 7, 6, 0, 0, 1, 1);
        words(x, 0, 6, 0, 0, 0, 1);
        Due.due("it is no STEP", x.about(7), 0);
        Due.due("nor said", x.log(-1, 0), 0);
    }

    @Says(promise = 40, words = "False for others.")
    static void othersDoNotFall() {
        LastWordAt x = Edge.table(2);
        x.falls(0, 3);
        Edge.untouched("others", x, () -> {
            for (int moment : new int[] {6, -1, Edge.MIN, Edge.MAX}) {
                Due.due("MOMENT " + moment, x.falls(moment, 1), false);
            }
            for (int set : new int[] {4, 5, 7, 255, 256, -1, Edge.MIN, Edge.MAX}) {
                Due.due("set " + set, x.falls(0, set), false);
            }
        });
        LastWordAt nobody = new LastWordAt();
        Due.due("none, without GUESTS", nobody.falls(0, 0), true);
        Due.due("one, without GUESTS", nobody.falls(0, 1), false);
    }

    @Says(promise = 40, words = "ahead of which some GUESTS FALL in it (told; at first none)")
    static void nobodyFallsAtFirst() {
        LastWordAt x = Edge.table(2);
        Edge.list(x, 0, 100);
        words(x, 0, 1, 0, 0, 0, 1);
        x.falls(0, 1);
        words(x, 0, 1, 0, 0, 1, 1);
    }

    // ---- 41: when ----

    @Says(promise = 41, words = "WHEN, by a list: the MOMENT (what 0), the upper (1), the lower one (2).")
    static void whenAtItsEnds() {
        LastWordAt x = Edge.table(2);
        Edge.list(x, 0, 0, 0, 0, 0, 0, 0);
        when(x, 0, 6, 0, 0, 0, 1);
        Edge.list(x, 0, 0, 0, 0, 0, 0, 100);
        when(x, 0, 6, 0, 0, 1, 1);
        x.falls(4, 2);
        when(x, 0, 6, 0, 5, 1, 1);
        when(x, 0, 5, 0, 0, 0, 1);
        x.falls(5, 2);
        when(x, 0, 6, 0, 5, 1, 2);
        when(x, 1, 6, 0, 0, 1, 1);
    }

    @Says(promise = 41, words = "NONE for others.")
    static void whenOfOthers() {
        LastWordAt x = Edge.table(2);
        for (int guest : NO_GUESTS) {
            Due.due("GUEST " + guest, x.when(guest, 1, 0, 0), -1);
        }
        for (int m : NO_M) {
            Due.due("m " + m, x.when(0, m, 0, 0), -1);
            Due.due("m " + m, x.when(0, m, 0, 1), -1);
        }
        for (int list : NO_LIST) {
            Due.due("list " + list, x.when(0, 1, list, 0), -1);
        }
        for (int what : NO_WHAT) {
            Due.due("what " + what, x.when(0, 1, 0, what), -1);
        }
        Due.due("without GUESTS", new LastWordAt().when(0, 1, 0, 0), -1);
        x.send(0);
        Due.due("one that is gone", x.when(0, 6, 0, 0), 0);
    }

    @Says(promise = 41, words = "of like ones the first; the ODDS, in lowest terms.")
    static void theFirstOfLikeMoments() {
        LastWordAt x = Edge.table(2);
        Edge.list(x, 0, 0, 0, 50, 0, 0, 0);
        when(x, 0, 6, 0, 0, 1, 2);
        x.falls(0, 2);
        when(x, 0, 6, 0, 1, 1, 2);
        x.falls(1, 2);
        when(x, 0, 6, 0, 2, 1, 2);
        x.falls(2, 2);
        when(x, 0, 6, 0, 2, 1, 4);
        when(x, 1, 6, 0, 0, 1, 2);
    }

    @Says(promise = 41, words = "(its part of it, by those who HOLD when he dies; at first HOLD now)")
    static void whoHoldsNowHoldsOn() {
        LastWordAt x = Edge.table(3);
        Edge.list(x, 0, 50, 50);
        x.say(0, 0);
        x.say(1, 0);
        when(x, 0, 2, 0, 0, 3, 4);
        words(x, 0, 2, 0, 0, 0, 1);
        x.pass(1);
        words(x, 0, 2, 0, 0, 3, 8);
        when(x, 2, 2, 0, 0, 3, 4);
        // It must speak once; in 1 it has its half in 0, and all of it in 1.
        when(x, 0, 2, 0, 0, 3, 4);
        x.falls(0, 4);
        words(x, 0, 2, 0, 0, 0, 1);
        when(x, 0, 2, 0, 0, 3, 8);
        x.falls(1, 4);
        when(x, 0, 2, 0, 0, 1, 4);
    }

    /** GUEST 0 HOLDS now; he dies with 50 in 0 and in 1, in which GUEST 1 FALLS. */
    private static LastWordAt holding() {
        LastWordAt x = Edge.table(2);
        x.say(0, 0);
        x.pass(1);
        Edge.list(x, 0, 50, 50);
        Edge.list(x, 1, 100, 0);
        x.falls(1, 2);
        return x;
    }

    @Says(promise = 41, words = "at first HOLD now")
    static void holdNowForWhen() {
        LastWordAt x = holding();
        when(x, 0, 2, 0, 1, 5, 8);
        x.undo();
        when(x, 0, 2, 0, 0, 1, 2);
        x.pass(1);
        when(x, 0, 2, 0, 1, 5, 8);
    }

    @Says(promise = 42, words = "at first HOLD now")
    static void holdNowForWords() {
        LastWordAt x = holding();
        words(x, 0, 2, 1, 2, 5, 8);
        x.undo();
        words(x, 0, 2, 1, 1, 1, 2);
        words(x, 0, 2, 2, 3, 5, 8);
    }

    @Says(promise = 43, words = "at first HOLD now")
    static void holdNowForFewest() {
        LastWordAt x = holding();
        Due.due("50", x.fewest(0, 2, 0, 50), 0);
        Due.due("62", x.fewest(0, 2, 0, 62), 1);
        x.undo();
        Due.due("50, not HOLDING", x.fewest(0, 2, 0, 50), 1);
        Due.due("62, not HOLDING", x.fewest(0, 2, 0, 62), 2);
    }

    @Says(promise = 45, words = "at first HOLD now")
    static void holdNowForACough() {
        // HOLDING it speaks in 1 by both lists; else in 0 by both.
        LastWordAt x = holding();
        Edge.fraction("HOLDING", x.cough(0, 2, 5, false), x.cough(0, 2, 5, true), 0, 1);
        x.undo();
        Edge.fraction("not HOLDING", x.cough(0, 2, 5, false), x.cough(0, 2, 5, true), 0, 1);
        // By the second list he dies in 1 alone: not HOLDING, it had to know that.
        Edge.list(x, 1, 0, 100);
        Edge.fraction("not HOLDING", x.cough(0, 2, 5, false), x.cough(0, 2, 5, true), 3, 16);
        x.pass(1);
        Edge.fraction("HOLDING", x.cough(0, 2, 5, false), x.cough(0, 2, 5, true), 0, 1);
    }

    @Says(promise = 41, words = "WHEN to speak, once, a GUEST (told GUESTS FALL as well): the MOMENT 0 .. m - 1 (m 1 .. 6)")
    static void allEightShare() {
        LastWordAt x = Edge.table(8);
        Edge.list(x, 0, 1, 1, 1, 1, 1, 1);
        for (int t = 0; t < 6; t++) {
            x.falls(t, 255);
        }
        // 1/8 of what dying within six comes to.
        long lives = 99L * 99 * 99 * 99 * 99 * 99;
        long all = 1000000000000L;
        when(x, 7, 6, 0, 0, all - lives, 8 * all);
    }

    // ---- 42: words ----

    @Says(promise = 42, words = "WORDS, by a list: the MOMENTS (what 0), the upper (1), the lower one (2).")
    static void wordsFromNoneToSix() {
        LastWordAt x = Edge.table(2);
        Edge.list(x, 0, 50, 50, 50, 50, 50, 50);
        for (int t = 0; t < 6; t++) {
            x.falls(t, 2);
        }
        int[] want = {0, 1, 3, 7, 15, 31, 63};
        long[] up = {0, 1, 3, 7, 15, 31, 63};
        long[] low = {1, 4, 8, 16, 32, 64, 128};
        for (int w = 0; w <= 6; w++) {
            words(x, 0, 6, w, want[w], up[w], low[w]);
        }
        words(x, 0, 1, 6, 1, 1, 4);
        words(x, 0, 1, 0, 0, 0, 1);
    }

    @Says(promise = 42, words = "NONE for others.")
    static void wordsOfOthers() {
        LastWordAt x = Edge.table(2);
        for (int guest : NO_GUESTS) {
            Due.due("GUEST " + guest, x.words(guest, 1, 1, 0, 0), -1);
        }
        for (int m : NO_M) {
            Due.due("m " + m, x.words(0, m, 1, 0, 0), -1);
        }
        for (int w : new int[] {-1, 7, Edge.MIN, Edge.MAX}) {
            Due.due("w " + w, x.words(0, 1, w, 0, 0), -1);
        }
        for (int list : NO_LIST) {
            Due.due("list " + list, x.words(0, 1, 1, list, 0), -1);
        }
        for (int what : NO_WHAT) {
            Due.due("what " + what, x.words(0, 1, 1, 0, what), -1);
        }
        Due.due("w 0", x.words(0, 1, 0, 0, 2), 1);
        Due.due("w 6", x.words(0, 6, 6, 1, 0), 1);
    }

    @Says(promise = 42, words = "WORDS of a GUEST: up to w of them (0 to 6), each in a MOMENT of m: the MOMENTS (bits) by which its ODDS are greatest; of like ones the fewest, then the lowest (bits).")
    static void theFewestThenTheLowest() {
        LastWordAt x = Edge.table(2);
        Edge.list(x, 0, 0, 0, 0, 0, 0, 0);
        words(x, 0, 6, 6, 0, 0, 1);
        Edge.list(x, 0, 0, 0, 0, 0, 0, 100);
        words(x, 0, 6, 6, 1, 1, 1);
        x.falls(1, 2);
        words(x, 0, 6, 6, 4, 1, 1);
        Edge.list(x, 0, 100, 0, 0, 0, 0, 100);
        words(x, 0, 6, 6, 1, 1, 1);
        Edge.list(x, 0, 50, 0, 0, 0, 0, 100);
        words(x, 0, 6, 1, 1, 1, 2);
        words(x, 0, 6, 2, 5, 1, 1);
        words(x, 0, 6, 6, 5, 1, 1);
    }

    // ---- 43: fewest ----

    @Says(promise = 43, words = "FEWEST for q: the least w by which these ODDS are q out of 100 (1 .. 100) or more; none.")
    static void fewestFromNoneToSix() {
        LastWordAt x = Edge.table(2);
        // By w words in the first w MOMENTS: 0, 25, 37.5, 43.75, .. out of 100.
        Edge.list(x, 0, 50, 50, 50, 50, 50, 100);
        for (int t = 0; t < 6; t++) {
            x.falls(t, 2);
        }
        int[] q = {1, 25, 26, 37, 38, 43, 44, 46, 47, 48, 49, 50, 51, 100};
        int[] want = {1, 1, 2, 2, 3, 3, 4, 4, 5, 5, 6, 6, -1, -1};
        for (int i = 0; i < q.length; i++) {
            Due.due("fewest for " + q[i], x.fewest(0, 6, 0, q[i]), want[i]);
        }
        Due.due("it FALLS without a word", x.fewest(1, 6, 0, 100), 0);
        Edge.list(x, 1, 0);
        Due.due("he doesn't die", x.fewest(0, 1, 1, 1), -1);
        Edge.list(x, 1, 2);
        Due.due("just 1 out of 100", x.fewest(0, 1, 1, 1), 1);
        Edge.list(x, 1, 1);
        Due.due("a half out of 100", x.fewest(0, 1, 1, 1), -1);
    }

    @Says(promise = 43, words = "FEWEST.")
    static void sixWordsAreEnough() {
        LastWordAt x = Edge.table(2);
        Edge.list(x, 0, 10, 10, 10, 10, 10, 100);
        for (int t = 0; t < 6; t++) {
            x.falls(t, t < 5 ? 2 : 0);
        }
        // Its word in the last alone: 9/10 five times, 59.049 out of 100; all words: the half of the rest, too.
        Due.due("fewest for 59", x.fewest(0, 6, 0, 59), 1);
        Due.due("fewest for 60", x.fewest(0, 6, 0, 60), 2);
        Due.due("fewest for 79", x.fewest(0, 6, 0, 79), 6);
        Due.due("fewest for 80", x.fewest(0, 6, 0, 80), -1);
    }

    @Says(promise = 43, words = "NONE: none, and for others.")
    static void fewestOfOthers() {
        LastWordAt x = Edge.table(2);
        Edge.list(x, 0, 100);
        for (int guest : NO_GUESTS) {
            Due.due("GUEST " + guest, x.fewest(guest, 1, 0, 1), -1);
        }
        for (int m : NO_M) {
            Due.due("m " + m, x.fewest(0, m, 0, 1), -1);
        }
        for (int list : NO_LIST) {
            Due.due("list " + list, x.fewest(0, 1, list, 1), -1);
        }
        for (int q : new int[] {0, 101, -1, Edge.MIN, Edge.MAX}) {
            Due.due("q " + q, x.fewest(0, 1, 0, q), -1);
        }
        Due.due("q 1", x.fewest(0, 1, 0, 1), 1);
        Due.due("q 100", x.fewest(0, 1, 0, 100), 1);
    }

    // ---- 44: game ----

    @Says(promise = 44, words = "A GAME: the upper (what 0), the lower one (1); 1 the first speaks at once, 0 not (2).")
    static void gamesAtTheirEnds() {
        LastWordAt x = new LastWordAt();
        for (int m = 1; m <= 5; m++) {
            Edge.fraction("game of " + m, x.game(m, 0), x.game(m, 1), 0, 1);
        }
        Due.due("one MOMENT: it has to", x.game(1, 2), 1);
        // Silent, it would lose 1/10 and win 9/10 * 1/10 by its own word in the last.
        Due.due("two MOMENTS", x.game(2, 2), 1);
        Edge.list(x, 0, 10, 20);
        Due.due("the last is worth more", x.game(2, 2), 0);
        Edge.fraction("both wait", x.game(2, 0), x.game(2, 1), 0, 1);
        Edge.list(x, 0, 100, 100, 100, 100, 100);
        Due.due("he surely dies at once", x.game(5, 2), 1);
        Edge.fraction("both HOLD", x.game(5, 0), x.game(5, 1), 0, 1);
    }

    @Says(promise = 44, words = "-2 for others.")
    static void otherGames() {
        LastWordAt x = new LastWordAt();
        for (int m : new int[] {0, 6, -1, Edge.MIN, Edge.MAX}) {
            for (int what = 0; what <= 2; what++) {
                Due.due("game(" + m + ", " + what + ")", x.game(m, what), -2);
            }
        }
        for (int what : NO_WHAT) {
            Due.due("game(1, " + what + ")", x.game(1, what), -2);
        }
    }

    @Says(promise = 44, words = "silent of like ones: that difference by best play (with its sign), in lowest terms; whether the first speaks in the first MOMENT.")
    static void silentOfLikeOnes() {
        LastWordAt x = new LastWordAt();
        Edge.list(x, 0, 0, 0, 0, 0, 0);
        for (int m = 1; m <= 5; m++) {
            Due.due("he doesn't die in " + m, x.game(m, 2), 0);
        }
        // With 50 and then 100 a word at once and the other's later are worth the same; with 51 it is better.
        Edge.list(x, 0, 50, 100);
        Due.due("like ones", x.game(2, 2), 0);
        Edge.list(x, 0, 51, 100);
        Due.due("a word at once is better", x.game(2, 2), 1);
        Edge.list(x, 0, 49, 100);
        Due.due("a word later is better", x.game(2, 2), 0);
    }

    @Says(promise = 44, words = "A GAME of m MOMENTS (1 to 5) by the first list: two, each with one word left, nobody HOLDING at first, told GUESTS aside")
    static void toldGuestsAside() {
        LastWordAt x = Edge.table(2);
        Edge.list(x, 1, 0, 0, 0, 0, 0, 0);
        Edge.list(x, 0, 100);
        Due.due("by the first list", x.game(1, 2), 1);
        Edge.list(x, 1, 100);
        Edge.list(x, 0, 0);
        Due.due("not by the second", x.game(1, 2), 0);
        Edge.list(x, 0, 100);
        x.say(0, 0);
        x.pass(1);
        Due.due("GUEST 0 HOLDS now", x.holds(false), 1);
        for (int t = 0; t < 6; t++) {
            x.falls(t, 2);
        }
        Due.due("it starts with nobody", x.game(1, 2), 1);
        Edge.fraction("it starts with nobody", x.game(1, 0), x.game(1, 1), 0, 1);
    }

    @Says(promise = 44, words = "in each MOMENT the first may speak, then the second (knowing), if they have it yet; both in one MOMENT HOLD both; then he may die.")
    static void eachMayAnswer() {
        LastWordAt x = new LastWordAt();
        // With p, then 100: a word in 0 alone has p, the other's in 1 the rest.
        for (int p = 0; p <= 100; p += 10) {
            Edge.list(x, 0, p, 100);
            Due.due("with " + p, x.game(2, 2), p > 50 ? 1 : 0);
            Edge.fraction("with " + p, x.game(2, 0), x.game(2, 1), 0, 1);
        }
        // With p, then 50 each: the other's word in 1 has 1/2, 3/4, 7/8, 15/16 of the rest.
        int[] silent = {33, 42, 46, 48};
        for (int m = 2; m <= 5; m++) {
            Edge.list(x, 0, silent[m - 2], 50, 50, 50, 50);
            Due.due("silent of " + m, x.game(m, 2), 0);
            Edge.list(x, 0, silent[m - 2] + 1);
            Due.due("at once of " + m, x.game(m, 2), 1);
        }
    }

    @Says(promise = 44, words = "The first wants its ODDS less the second's greatest, the second least (each: ODDS to get it; both HOLDING have half)")
    static void neitherCanWin() {
        LastWordAt x = new LastWordAt();
        for (int a = 0; a <= 100; a += 25) {
            for (int b = 0; b <= 100; b += 25) {
                Edge.list(x, 0, a, b, 30);
                Edge.fraction("with " + a + ", " + b, x.game(3, 0), x.game(3, 1), 0, 1);
            }
        }
    }

    // ---- 45: cough ----

    @Says(promise = 45, words = "A COUGH: the upper (low false), the lower one (low true).")
    static void coughsAtTheirEnds() {
        LastWordAt x = Edge.table(2);
        // By the first list he dies in 0, by the second in 1, in which another one FALLS.
        Edge.list(x, 0, 100, 0);
        Edge.list(x, 1, 0, 100);
        x.falls(1, 2);
        Edge.fraction("q 0", x.cough(0, 2, 0, false), x.cough(0, 2, 0, true), 0, 1);
        Edge.fraction("q 10", x.cough(0, 2, 10, false), x.cough(0, 2, 10, true), 0, 1);
        Edge.fraction("q 1", x.cough(0, 2, 1, false), x.cough(0, 2, 1, true), 1, 10);
        Edge.fraction("q 9", x.cough(0, 2, 9, false), x.cough(0, 2, 9, true), 1, 20);
        Edge.fraction("one MOMENT", x.cough(0, 1, 5, false), x.cough(0, 1, 5, true), 0, 1);
        Edge.fraction("the other one", x.cough(1, 2, 5, false), x.cough(1, 2, 5, true), 0, 1);
        Edge.fraction("six MOMENTS", x.cough(0, 6, 1, false), x.cough(0, 6, 1, true), 1, 10);
    }

    @Says(promise = 45, words = "NONE for others.")
    static void otherCoughs() {
        LastWordAt x = Edge.table(2);
        for (boolean low : new boolean[] {false, true}) {
            for (int guest : NO_GUESTS) {
                Due.due("GUEST " + guest, x.cough(guest, 1, 5, low), -1);
            }
            for (int m : NO_M) {
                Due.due("m " + m, x.cough(0, m, 5, low), -1);
            }
            for (int q : new int[] {-1, 11, Edge.MIN, Edge.MAX}) {
                Due.due("q " + q, x.cough(0, 1, q, low), -1);
            }
        }
        Due.due("like lists", x.cough(0, 6, 5, true), 1);
        Edge.list(x, 0, 0);
        Edge.list(x, 1, 0);
        Edge.fraction("he doesn't die", x.cough(0, 1, 5, false), x.cough(0, 1, 5, true), 0, 1);
    }

    @Says(promise = 45, words = "A COUGH: with q out of 10 (0 .. 10) the first list is so, else the second: what it is worth to a GUEST to know which ahead of choosing WHEN (m as there): ODDS then, less ODDS of the best it can do without; in lowest terms.")
    static void whatKnowingIsWorth() {
        LastWordAt x = Edge.table(2);
        // Known: 2/10 * 1 + 8/10 * 1/2; without: in 0 2/10, in 1 8/10 * 1/2.
        Edge.list(x, 0, 100, 0);
        Edge.list(x, 1, 0, 100);
        x.falls(1, 2);
        Edge.fraction("q 2", x.cough(0, 2, 2, false), x.cough(0, 2, 2, true), 1, 5);
        // Known: 13/20; without: in 1 7/20.
        Edge.fraction("q 3", x.cough(0, 2, 3, false), x.cough(0, 2, 3, true), 3, 10);
        // Known: 7/10; without: in 0 4/10, as from here on.
        Edge.fraction("q 4", x.cough(0, 2, 4, false), x.cough(0, 2, 4, true), 3, 10);
        Edge.fraction("q 6", x.cough(0, 2, 6, false), x.cough(0, 2, 6, true), 1, 5);
    }
}
