/** Promises 20 to 25 and 32: what is written down, and the ODDS by it. */
final class EdgesOfTheBook {
    private EdgesOfTheBook() {
    }

    /** NIGHTS, each by its set of those who HOLD (bits) and its dies. */
    private static LastWordAt nights(int guests, int[]... nights) {
        LastWordAt x = Edge.table(guests);
        Due.read(x, "dies moment;");
        x.by(0);
        for (int[] night : nights) {
            night(x, guests, night[0], night[1]);
        }
        return x;
    }

    /** dies is MOMENT, as no more than 99 can PASS. */
    private static void night(LastWordAt x, int guests, int set, int dies) {
        for (int g = 0; g < guests; g++) {
            if ((set >> g & 1) == 1) {
                x.say(g, 0);
            }
        }
        for (int left = dies; left > 0; left -= 60) {
            x.pass(Math.min(left, 60));
        }
        Due.due("who HOLDS", x.dinner(), set);
    }

    /** A NIGHT by a dies that MOMENT can't come to. */
    private static void surely(LastWordAt x, int set) {
        int number = Due.read(x, "dies 100;");
        x.by(number);
        for (int g = 0; g < 8; g++) {
            if ((set >> g & 1) == 1) {
                x.say(g, 0);
            }
        }
        Due.due("who HOLDS", x.dinner(), set);
        x.by(0);
    }

    // ---- 20: inherits ----

    @Says(promise = 20, words = "INHERITS: the upper (low false), the lower one (low true).")
    static void oddsAtTheirEnds() {
        LastWordAt x = nights(3, new int[] {1, 0});
        Edge.fraction("he can't die", x.inherits(0, 1, false), x.inherits(0, 1, true), 0, 1);
        night(x, 3, 2, 50);
        Edge.fraction("it never HELD with dies", x.inherits(0, 2, false), x.inherits(0, 2, true), 0, 1);
        Edge.fraction("a half", x.inherits(1, 2, false), x.inherits(1, 2, true), 1, 2);
        surely(x, 1);
        Edge.fraction("surely", x.inherits(0, 1, false), x.inherits(0, 1, true), 1, 1);
        Edge.fraction("else", x.inherits(0, 3, false), x.inherits(0, 3, true), 1, 2);
        Edge.fraction("it said nothing", x.inherits(2, 3, false), x.inherits(2, 3, true), 0, 1);
    }

    @Says(promise = 20, words = "NONE for others (fewer NIGHTS).")
    static void oddsOfOthers() {
        LastWordAt x = Edge.table(2);
        Due.due("nothing is written down", x.inherits(0, 1, false), -1);
        x.dinner();
        Due.due("n 1 of one", x.inherits(0, 1, true), 1);
        Due.due("n 2 of one", x.inherits(0, 2, true), -1);
        for (int i = 0; i < 6; i++) {
            x.dinner();
        }
        for (boolean low : new boolean[] {false, true}) {
            Due.due("n 6 of seven", x.inherits(0, 6, low), low ? 1 : 0);
            Due.due("n 7 of seven", x.inherits(0, 7, low), -1);
            Due.due("n 0", x.inherits(0, 0, low), -1);
            Due.due("n -1", x.inherits(0, -1, low), -1);
            Due.due("the least n", x.inherits(0, Edge.MIN, low), -1);
            Due.due("the greatest n", x.inherits(0, Edge.MAX, low), -1);
            Due.due("GUEST 2", x.inherits(2, 1, low), -1);
            Due.due("GUEST 8", x.inherits(8, 1, low), -1);
            Due.due("GUEST -1", x.inherits(-1, 1, low), -1);
            Due.due("the least GUEST", x.inherits(Edge.MIN, 1, low), -1);
            Due.due("the greatest GUEST", x.inherits(Edge.MAX, 1, low), -1);
        }
    }

    @Says(promise = 20, words = "one who HOLDS with others has a part of it as large as theirs; in lowest terms.")
    static void partsOfAll() {
        for (int many = 1; many <= 8; many++) {
            LastWordAt x = nights(8, new int[] {(1 << many) - 1, 99});
            int common = many % 3 == 0 ? 3 : 1;
            Edge.fraction("one of " + many, x.inherits(0, 1, false), x.inherits(0, 1, true), 99 / common, 100 * many / common);
            Due.due("the last of them", x.inherits(many - 1, 1, true), 100 * many / common);
            Due.due("none of them", x.inherits(many % 8, 1, false), many == 8 ? 99 : 0);
        }
    }

    @Says(promise = 20, words = "he dies in the first of these with its dies out of 100, else in the next likewise")
    static void theLatestOnes() {
        LastWordAt x = nights(1, new int[] {1, 90}, new int[] {0, 50}, new int[] {1, 50}, new int[] {0, 50}, new int[] {1, 50},
                new int[] {1, 20}, new int[] {0, 10});
        Edge.fraction("the latest", x.inherits(0, 1, false), x.inherits(0, 1, true), 0, 1);
        Edge.fraction("two", x.inherits(0, 2, false), x.inherits(0, 2, true), 1, 5);
        Edge.fraction("three", x.inherits(0, 3, false), x.inherits(0, 3, true), 3, 5);
        Edge.fraction("four", x.inherits(0, 4, false), x.inherits(0, 4, true), 3, 10);
        Edge.fraction("six, not the eldest", x.inherits(0, 6, false), x.inherits(0, 6, true), 13, 40);
    }

    @Says(promise = 20, words = "INHERITS, by the latest n (1 .. 6) NIGHTS written down")
    static void theSmallestParts() {
        // 1/8 of 1/100 six times: the lower one is the largest that can be.
        LastWordAt x = nights(8, new int[] {0, 99}, new int[] {0, 99}, new int[] {0, 99}, new int[] {0, 99}, new int[] {0, 99},
                new int[] {255, 1});
        Edge.fraction("one out of 8 times 100 six times", x.inherits(7, 6, false), x.inherits(7, 6, true), 1, 8000000000000L);
    }

    // ---- 21: open ----

    @Says(promise = 21, words = "OPEN: the upper (low false), the lower one (low true).")
    static void openAtItsEnds() {
        LastWordAt x = nights(1, new int[] {1, 0});
        Edge.fraction("he lives on", x.open(1, false), x.open(1, true), 1, 1);
        surely(x, 1);
        Edge.fraction("one gets it", x.open(2, false), x.open(2, true), 0, 1);
        surely(x, 0);
        Edge.fraction("he dies, nobody HELD", x.open(1, false), x.open(1, true), 1, 1);
        Edge.fraction("he died ahead of it", x.open(3, false), x.open(3, true), 0, 1);
    }

    @Says(promise = 21, words = "NONE for others (fewer NIGHTS).")
    static void openOfOthers() {
        LastWordAt x = new LastWordAt();
        Due.due("nothing is written down", x.open(1, false), -1);
        x.dinner();
        Due.due("without GUESTS", x.open(1, false), 1);
        Due.due("n 2 of one", x.open(2, false), -1);
        for (int i = 0; i < 6; i++) {
            x.dinner();
        }
        for (boolean low : new boolean[] {false, true}) {
            Due.due("n 6 of seven", x.open(6, low), 1);
            Due.due("n 7 of seven", x.open(7, low), -1);
            Due.due("n 0", x.open(0, low), -1);
            Due.due("n -1", x.open(-1, low), -1);
            Due.due("the least n", x.open(Edge.MIN, low), -1);
            Due.due("the greatest n", x.open(Edge.MAX, low), -1);
        }
    }

    @Says(promise = 21, words = "OPEN: the ODDS that nobody gets it in these n (he lives on, or dies in one in which nobody HELD).")
    static void openBySteps() {
        LastWordAt x = nights(2, new int[] {3, 50}, new int[] {0, 20}, new int[] {2, 10});
        Edge.fraction("one", x.open(1, false), x.open(1, true), 9, 10);
        Edge.fraction("two", x.open(2, false), x.open(2, true), 23, 25);
        Edge.fraction("three", x.open(3, false), x.open(3, true), 23, 50);
    }

    // ---- 22: thatNight ----

    @Says(promise = 22, words = "THAT NIGHT: the upper (low false), the lower one (low true).")
    static void thatNightAtItsEnds() {
        LastWordAt x = nights(2, new int[] {1, 50}, new int[] {2, 50}, new int[] {1, 50});
        Edge.fraction("the eldest", x.thatNight(1, 3, 0, false), x.thatNight(1, 3, 0, true), 4, 5);
        Edge.fraction("another set's", x.thatNight(1, 3, 1, false), x.thatNight(1, 3, 1, true), 0, 1);
        Edge.fraction("the latest", x.thatNight(1, 3, 2, false), x.thatNight(1, 3, 2, true), 1, 5);
        Edge.fraction("surely", x.thatNight(2, 3, 1, false), x.thatNight(2, 3, 1, true), 1, 1);
        Edge.fraction("of the latest two", x.thatNight(1, 2, 1, false), x.thatNight(1, 2, 1, true), 1, 1);
    }

    @Says(promise = 22, words = "NONE: none, and for others.")
    static void thatNightOfOthers() {
        LastWordAt x = Edge.table(2);
        Due.due("nothing is written down", x.thatNight(1, 1, 0, false), -1);
        for (int i = 0; i < 7; i++) {
            x.say(0, 0);
            x.dinner();
        }
        Due.due("n 6, i 5", x.thatNight(1, 6, 5, true) > 1, true);
        for (boolean low : new boolean[] {false, true}) {
            Due.due("n 7", x.thatNight(1, 7, 0, low), -1);
            Due.due("n 0", x.thatNight(1, 0, 0, low), -1);
            Due.due("n -1", x.thatNight(1, -1, 0, low), -1);
            Due.due("the least n", x.thatNight(1, Edge.MIN, 0, low), -1);
            Due.due("the greatest n", x.thatNight(1, Edge.MAX, 0, low), -1);
            Due.due("i 6", x.thatNight(1, 6, 6, low), -1);
            Due.due("i 2 of 2", x.thatNight(1, 2, 2, low), -1);
            Due.due("i -1", x.thatNight(1, 6, -1, low), -1);
            Due.due("the least i", x.thatNight(1, 6, Edge.MIN, low), -1);
            Due.due("the greatest i", x.thatNight(1, 6, Edge.MAX, low), -1);
            Due.due("a set with GUEST 2", x.thatNight(5, 6, 0, low), -1);
            Due.due("a set of GUEST 2", x.thatNight(4, 6, 0, low), -1);
            Due.due("a set of -1", x.thatNight(-1, 6, 0, low), -1);
            Due.due("a set of 256 and 1", x.thatNight(257, 6, 0, low), -1);
            Due.due("the least set", x.thatNight(Edge.MIN, 6, 0, low), -1);
            Due.due("the least set and 1", x.thatNight(Edge.MIN + 1, 6, 0, low), -1);
            Due.due("the greatest set", x.thatNight(Edge.MAX, 6, 0, low), -1);
        }
        LastWordAt few = Edge.table(1);
        few.say(0, 0);
        few.dinner();
        Due.due("n 1 of one", few.thatNight(1, 1, 0, false), 1);
        Due.due("n 2 of one", few.thatNight(1, 2, 0, false), -1);
    }

    @Says(promise = 22, words = "THAT NIGHT: if just a set of GUESTS (not none) got it in these n, the ODDS that it was the i-th of these (0: the eldest); in lowest terms; none, if it can't have been.")
    static void itCannotHaveBeen() {
        LastWordAt x = nights(2, new int[] {1, 50}, new int[] {0, 50}, new int[] {3, 50}, new int[] {2, 0});
        Due.due("none is no set that gets it", x.thatNight(0, 4, 1, false), -1);
        Due.due("he can't have died then", x.thatNight(2, 4, 3, false), -1);
        Due.due("he can't have died then", x.thatNight(2, 4, 0, false), -1);
        Edge.fraction("just this set", x.thatNight(1, 4, 0, false), x.thatNight(1, 4, 0, true), 1, 1);
        Edge.fraction("just this set", x.thatNight(3, 4, 2, false), x.thatNight(3, 4, 2, true), 1, 1);
        Edge.fraction("of another set", x.thatNight(1, 4, 2, false), x.thatNight(1, 4, 2, true), 0, 1);
        Due.due("not of these", x.thatNight(1, 3, 0, false), -1);
        surely(x, 3);
        night(x, 2, 2, 50);
        Due.due("he was dead by then", x.thatNight(2, 6, 5, false), -1);
        Due.due("he was dead by then", x.thatNight(2, 2, 1, false), -1);
        Edge.fraction("of the latest alone", x.thatNight(2, 1, 0, false), x.thatNight(2, 1, 0, true), 1, 1);
        night(x, 2, 1, 1);
        Edge.fraction("1 out of 100 can be", x.thatNight(1, 1, 0, false), x.thatNight(1, 1, 0, true), 1, 1);
    }

    // ---- 23: tally ----

    @Says(promise = 23, words = "OF THE BOOK.")
    static void talliesFromNoneToTwenty() {
        LastWordAt x = Edge.table(8);
        Due.due("nothing is written down", x.tally(0, true), 0);
        Due.due("nothing is written down", x.tally(0, false), 0);
        for (int i = 0; i < 21; i++) {
            x.say(7, 0);
            if (i == 20) {
                x.say(0, 0);
            }
            x.dinner();
        }
        Due.due("alone in 19", x.tally(7, true), 19);
        Due.due("in all 20", x.tally(7, false), 20);
        Due.due("never alone", x.tally(0, true), 0);
        Due.due("with another one", x.tally(0, false), 1);
        Due.due("never", x.tally(1, false), 0);
    }

    @Says(promise = 23, words = "NONE for others.")
    static void talliesOfOthers() {
        LastWordAt x = Edge.table(2);
        x.say(0, 0);
        x.dinner();
        for (boolean alone : new boolean[] {false, true}) {
            for (int guest : new int[] {2, 8, -1, 32, Edge.MIN, Edge.MAX}) {
                Due.due("tally(" + guest + ")", x.tally(guest, alone), -1);
            }
        }
    }

    @Says(promise = 23, words = "OF THE BOOK: in how many NIGHTS a GUEST HELD, alone or at all.")
    static void nightsOfNobody() {
        LastWordAt x = nights(1, new int[] {0, 1}, new int[] {0, 1}, new int[] {1, 1});
        Due.due("alone", x.tally(0, true), 1);
        Due.due("at all", x.tally(0, false), 1);
    }

    // ---- 24: longest ----

    @Says(promise = 24, words = "THE LONGEST: how many (set false; 0 without any), the set (bits; NONE without any).")
    static void theLongestWithoutAny() {
        LastWordAt x = Edge.table(1);
        Due.due("how many", x.longest(false), 0);
        Due.due("the set", x.longest(true), -1);
        x.dinner();
        Due.due("one", x.longest(false), 1);
        Due.due("of none", x.longest(true), 0);
        x.undo();
        Due.due("taken back", x.longest(false), 0);
        Due.due("taken back", x.longest(true), -1);
    }

    @Says(promise = 24, words = "THE LONGEST: how many NIGHTS one behind the other (as written down) just one and the same set HELD (none, too), the most; of like ones the set of the earlier ones.")
    static void theLongestOfLikeOnes() {
        LastWordAt x = nights(2, new int[] {2, 1}, new int[] {2, 1}, new int[] {3, 1}, new int[] {1, 1}, new int[] {1, 1});
        Due.due("how many", x.longest(false), 2);
        Due.due("the earlier", x.longest(true), 2);
        night(x, 2, 1, 1);
        Due.due("three at the end", x.longest(false), 3);
        Due.due("the set", x.longest(true), 1);
        for (int i = 0; i < 3; i++) {
            x.dinner();
        }
        Due.due("like ones", x.longest(false), 3);
        Due.due("the earlier", x.longest(true), 1);
        x.dinner();
        Due.due("none, too", x.longest(false), 4);
        Due.due("none, too", x.longest(true), 0);
        for (int i = 0; i < 17; i++) {
            x.dinner();
        }
        Due.due("just what is written down", x.longest(false), 20);
    }

    // ---- 25: which ----

    @Says(promise = 25, words = "WHICH NIGHT (bits).")
    static void theFirstAndTheTwentieth() {
        LastWordAt x = Edge.table(8);
        Due.due("nothing is written down", x.which(0), 0);
        Due.due("nothing is written down", x.which(255), 0);
        for (int i = 0; i < 20; i++) {
            x.say(i == 0 || i == 19 ? 7 : 0, 0);
            x.dinner();
        }
        Due.due("the eldest and the latest", x.which(128), 1 | 1 << 19);
        Due.due("the others", x.which(1), (1 << 20) - 2 - (1 << 19));
        Due.due("no NIGHT", x.which(129), 0);
        Due.due("none", x.which(0), 0);
        x.dinner();
        Due.due("the eldest isn't written down any more", x.which(128), 1 << 18);
        Due.due("nobody in the latest", x.which(0), 1 << 19);
    }

    @Says(promise = 25, words = "NONE for others.")
    static void nightsOfOtherSets() {
        LastWordAt x = Edge.table(2);
        x.say(0, 0);
        x.dinner();
        for (int set : new int[] {4, 5, 255, 256, 257, -1, Edge.MIN, Edge.MIN + 1, Edge.MAX}) {
            Due.due("which(" + set + ")", x.which(set), -1);
        }
        Due.due("all who are told", x.which(3), 0);
        LastWordAt nobody = new LastWordAt();
        Due.due("which(0) without GUESTS", nobody.which(0), 0);
        Due.due("which(1) without GUESTS", nobody.which(1), -1);
    }

    @Says(promise = 25, words = "WHICH NIGHT: those written down (bits, from the eldest on) in which just a set of GUESTS (bits; none, too) HELD.")
    static void justASet() {
        LastWordAt x = nights(2, new int[] {1, 1}, new int[] {3, 1}, new int[] {0, 1}, new int[] {2, 1}, new int[] {1, 1});
        Due.due("which(0)", x.which(0), 4);
        Due.due("which(1)", x.which(1), 17);
        Due.due("which(2)", x.which(2), 8);
        Due.due("which(3)", x.which(3), 2);
    }

    // ---- 32: meanDies ----

    @Says(promise = 32, words = "NONE: nothing is written down.")
    static void noMean() {
        LastWordAt x = new LastWordAt();
        Due.due("the upper", x.meanDies(false), -1);
        Due.due("the lower", x.meanDies(true), -1);
        x.dinner();
        Edge.fraction("one", x.meanDies(false), x.meanDies(true), 10, 1);
        x.undo();
        Due.due("taken back", x.meanDies(false), -1);
    }

    @Says(promise = 32, words = "DIES on the mean: the upper (low false), the lower one (low true).")
    static void meansAtTheirEnds() {
        LastWordAt x = nights(1, new int[] {0, 0});
        Edge.fraction("0", x.meanDies(false), x.meanDies(true), 0, 1);
        surely(x, 0);
        Edge.fraction("0 and 100", x.meanDies(false), x.meanDies(true), 50, 1);
        surely(x, 0);
        Edge.fraction("two thirds", x.meanDies(false), x.meanDies(true), 200, 3);
    }

    @Says(promise = 32, words = "DIES on the mean, of all that is written down, in lowest terms.")
    static void theMeanOfTwenty() {
        LastWordAt x = Edge.table(1);
        Edge.rule(x, "dies night;");
        for (int i = 0; i < 20; i++) {
            x.dinner();
        }
        Edge.fraction("0 to 19", x.meanDies(false), x.meanDies(true), 19, 2);
        x.dinner();
        Edge.fraction("1 to 20", x.meanDies(false), x.meanDies(true), 21, 2);
    }
}
