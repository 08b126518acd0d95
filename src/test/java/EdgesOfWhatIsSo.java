/** Promises 16 to 19 and 48: what is so of GUESTS, THE LOG, what is written down, and all. */
final class EdgesOfWhatIsSo {
    private EdgesOfWhatIsSo() {
    }

    // ---- 16: of ----

    @Says(promise = 16, words = "-2 for others.")
    static void othersAreOfNobody() {
        LastWordAt x = Edge.table(2);
        for (int what = -1; what <= 8; what++) {
            Due.due("of(2, " + what + ")", x.of(2, what), -2);
            Due.due("of(8, " + what + ")", x.of(8, what), -2);
            Due.due("of(-1, " + what + ")", x.of(-1, what), -2);
            Due.due("of the least, " + what, x.of(Edge.MIN, what), -2);
            Due.due("of the greatest, " + what, x.of(Edge.MAX, what), -2);
        }
        for (int what : new int[] {-2, -1, 8, 9, Edge.MIN, Edge.MAX}) {
            Due.due("of(0, " + what + ")", x.of(0, what), -2);
            Due.due("of(1, " + what + ")", x.of(1, what), -2);
        }
        LastWordAt full = Edge.table(8);
        Due.due("of(7, 0)", full.of(7, 0), 7);
        Due.due("of(8, 0)", full.of(8, 0), -2);
    }

    @Says(promise = 16, words = "0 RANK, 1 HEARS, 2 GOES (NONE), 3 THERE (1, 0), 4 WORDS, 5 TOASTS, 6 LAST (NONE)")
    static void ofAGuestAtFirst() {
        LastWordAt x = new LastWordAt();
        x.guest(9, 4, -1);
        x.guest(0, 0, 0);
        int[][] want = {{9, 4, -1, 1, 0, 0, -1, 0}, {0, 0, 0, 1, 0, 0, -1, 3}};
        for (int g = 0; g < 2; g++) {
            for (int what = 0; what < 8; what++) {
                Due.due("of(" + g + ", " + what + ")", x.of(g, what), want[g][what]);
            }
        }
        x.say(1, 0);
        Due.due("LAST in MOMENT 0", x.of(1, 6), 0);
        x.pass(1);
        Due.due("THERE", x.of(1, 3), 0);
        Due.due("LAST stays", x.of(1, 6), 0);
    }

    @Says(promise = 16, words = "7 in which MOMENT a word (KIND 0) of it would FALL now (NONE: never; THERE or not)")
    static void whenAWordWouldFall() {
        LastWordAt x = new LastWordAt();
        x.guest(5, 9, -1);
        x.guest(5, 0, -1);
        x.pass(2);
        Due.due("now", x.of(0, 7), 2);
        Due.due("later", x.of(1, 7), 5);
        x.send(0);
        Due.due("one that is gone", x.of(0, 7), 2);
        Edge.rule(x, "counts kind=0;lag kind+1;");
        Due.due("of KIND 0", x.of(1, 7), 3);
        Edge.rule(x, "counts kind#0;");
        Due.due("never", x.of(1, 7), -1);
        Due.due("never, gone", x.of(0, 7), -1);
        x.by(-1);
        for (int i = 0; i < 40; i++) {
            x.ask();
        }
        Due.due("THE LOG is full", x.of(0, 7), 2);
        Due.due("nothing was said", x.of(0, 4), 0);
    }

    // ---- 17: holds ----

    @Says(promise = 17, words = "HOLD now (later false), WOULD HOLD (bits).")
    static void nowAndLater() {
        LastWordAt x = new LastWordAt();
        Due.due("now, without GUESTS", x.holds(false), 0);
        Due.due("later, without GUESTS", x.holds(true), 0);
        x.guest(5, 9, -1);
        x.guest(5, 0, -1);
        Due.due("now, nothing said", x.holds(false), 0);
        Due.due("later, nothing said", x.holds(true), 0);
        x.say(1, 0);
        x.say(0, 0);
        Due.due("now: ahead of MOMENT alone", x.holds(false), 0);
        Due.due("later", x.holds(true), 2);
        x.pass(1);
        Due.due("now", x.holds(false), 1);
        x.pass(2);
        Due.due("in MOMENT 3 it isn't ahead", x.holds(false), 1);
        x.pass(1);
        Due.due("in MOMENT 4 it is", x.holds(false), 2);
    }

    @Says(promise = 17, words = "HOLD now: by those that FALL ahead of MOMENT; WOULD HOLD: by all.")
    static void aheadOfMoment() {
        LastWordAt x = Edge.table(2);
        x.say(0, 0);
        Due.due("in MOMENT 0, not ahead", x.holds(false), 0);
        Due.due("by all", x.holds(true), 1);
        x.pass(60);
        x.pass(39);
        x.say(1, 0);
        Due.due("in MOMENT 99, not ahead", x.holds(false), 1);
        Due.due("by all", x.holds(true), 2);
    }

    @Says(promise = 17, words = "the GUESTS who FALL in it (the old man aside); none, if just he does, or nothing FALLS")
    static void theOldManAside() {
        LastWordAt x = Edge.table(8);
        x.ask();
        Due.due("just he", x.holds(true), 0);
        x.say(0, 0);
        x.say(7, 0);
        x.say(7, 0);
        Due.due("with him", x.holds(true), 129);
        x.pass(1);
        Due.due("now", x.holds(false), 129);
        x.ask();
        Due.due("just he in the greatest", x.holds(true), 0);
        Due.due("now", x.holds(false), 129);
        x.pass(1);
        Due.due("now, too", x.holds(false), 0);
        LastWordAt never = Edge.table(2);
        Edge.rule(never, "counts rank=1;");
        never.say(0, 0);
        Due.due("nothing FALLS", never.holds(true), 0);
        never.pass(1);
        Due.due("nothing FALLS now", never.holds(false), 0);
        never.say(1, 0);
        never.pass(1);
        never.say(0, 0);
        Due.due("it doesn't count", never.holds(true), 2);
    }

    @Says(promise = 17, words = "HOLD of some of THE LOG: of those that FALL, the greatest MOMENT in which one does")
    static void theGreatestMoment() {
        LastWordAt x = Edge.table(2);
        Edge.rule(x, "lag 99-moment;");
        x.pass(1);
        x.say(0, 0);
        x.pass(1);
        x.say(1, 0);
        Due.due("the same MOMENT by another way", x.holds(true), 3);
        x.by(-1);
        x.say(1, 0);
        Due.due("a lesser one", x.holds(true), 3);
        x.pass(60);
        x.pass(37);
        Due.due("MOMENT 99", x.about(2), 99);
        Due.due("not ahead of 99", x.holds(false), 2);
        Due.due("would", x.holds(true), 3);
    }

    // ---- 18: log ----

    @Says(promise = 18, words = "THE LOG: how many (i NONE)")
    static void howManyInTheLog() {
        LastWordAt x = Edge.table(1);
        for (int what = 0; what < 4; what++) {
            Due.due("log(NONE, " + what + ")", x.log(-1, what), 0);
        }
        for (int i = 1; i <= 40; i++) {
            x.say(0, 0);
            Due.due("log(NONE, 0)", x.log(-1, 0), i);
        }
        x.say(0, 0);
        Due.due("40 at most", x.log(-1, 0), 40);
        x.dinner();
        Due.due("empty", x.log(-1, 0), 0);
    }

    @Says(promise = 18, words = "THE LOG of tonight (40 at most): MOMENT, who (a GUEST; 8: the old man), KIND (0 a word, 1 oh, 2 a toast, 3 good night, 4 the old man's), the MOMENT in which it FALLS (NONE: it doesn't count).")
    static void theFirstAndTheFortieth() {
        LastWordAt x = Edge.table(8);
        Edge.rule(x, "counts kind#1;lag 2;");
        x.say(7, 1);
        for (int i = 1; i < 39; i++) {
            x.ask();
        }
        x.pass(60);
        x.pass(39);
        x.say(6, 3);
        int[][] want = {{0, 7, 1, -1}, {0, 8, 4, 0}, {99, 6, 3, 101}};
        int[] at = {0, 38, 39};
        for (int i = 0; i < 3; i++) {
            for (int what = 0; what < 4; what++) {
                Due.due("log(" + at[i] + ", " + what + ")", x.log(at[i], what), want[i][what]);
            }
        }
        Due.due("log(40, 0)", x.log(40, 0), -2);
    }

    @Says(promise = 18, words = "the i-th: 0 MOMENT, 1 who, 2 KIND, 3 when it FALLS (NONE).")
    static void eachKindInTheLog() {
        LastWordAt x = new LastWordAt();
        x.guest(5, 0, -1);
        x.guest(5, 9, -1);
        x.say(0, 0);
        x.pass(2);
        x.say(0, 1);
        x.say(1, 2);
        x.ask();
        x.say(1, 3);
        int[][] want = {{0, 0, 0, 3}, {2, 0, 1, 5}, {2, 1, 2, 2}, {2, 8, 4, 2}, {2, 1, 3, 2}};
        for (int i = 0; i < 5; i++) {
            for (int what = 0; what < 4; what++) {
                Due.due("log(" + i + ", " + what + ")", x.log(i, what), want[i][what]);
            }
        }
    }

    @Says(promise = 18, words = "-2 if there is none such, and for others.")
    static void noneSuchInTheLog() {
        LastWordAt x = Edge.table(1);
        Due.due("log(0, 0) of an empty one", x.log(0, 0), -2);
        x.say(0, 0);
        for (int i : new int[] {1, 2, 40, -2, Edge.MIN, Edge.MAX}) {
            for (int what = 0; what < 4; what++) {
                Due.due("log(" + i + ", " + what + ")", x.log(i, what), -2);
            }
        }
        for (int what : new int[] {-1, 4, -2, Edge.MIN, Edge.MAX}) {
            Due.due("log(0, " + what + ")", x.log(0, what), -2);
        }
        x.undo();
        Due.due("taken back", x.log(0, 0), -2);
        x.say(0, 0);
        x.dinner();
        Due.due("a new evening", x.log(0, 0), -2);
    }

    // ---- 19: book ----

    @Says(promise = 19, words = "Written down: how many (i NONE)")
    static void howManyAreWrittenDown() {
        LastWordAt x = new LastWordAt();
        for (int what = 0; what < 3; what++) {
            Due.due("book(NONE, " + what + ")", x.book(-1, what), 0);
        }
        for (int i = 1; i <= 22; i++) {
            x.dinner();
            Due.due("book(NONE, 0)", x.book(-1, 0), Math.min(i, 20));
        }
    }

    @Says(promise = 19, words = "the i-th, from the eldest on: 0 NIGHT, 1 who HELD (bits), 2 dies.")
    static void fromTheEldestOn() {
        LastWordAt x = Edge.table(8);
        Edge.rule(x, "dies 100-night;");
        x.say(7, 0);
        x.dinner();
        x.dinner();
        int[][] want = {{0, 128, 100}, {1, 0, 99}};
        for (int i = 0; i < 2; i++) {
            for (int what = 0; what < 3; what++) {
                Due.due("book(" + i + ", " + what + ")", x.book(i, what), want[i][what]);
            }
        }
        LastWordAt late = new LastWordAt();
        Edge.toNight(late, 999);
        Due.due("the eldest of the last", late.book(0, 0), 979);
        Due.due("the last", late.book(19, 0), 998);
    }

    @Says(promise = 19, words = "-2 if there is none such, and for others.")
    static void noneSuchInTheBook() {
        LastWordAt x = new LastWordAt();
        Due.due("book(0, 0) of an empty one", x.book(0, 0), -2);
        x.dinner();
        for (int i : new int[] {1, 2, 20, -2, Edge.MIN, Edge.MAX}) {
            for (int what = 0; what < 3; what++) {
                Due.due("book(" + i + ", " + what + ")", x.book(i, what), -2);
            }
        }
        for (int what : new int[] {-1, 3, -2, Edge.MIN, Edge.MAX}) {
            Due.due("book(0, " + what + ")", x.book(0, what), -2);
        }
        x.undo();
        Due.due("taken back", x.book(0, 0), -2);
        for (int i = 0; i < 21; i++) {
            x.dinner();
        }
        Due.due("book(19, 0)", x.book(19, 0), 20);
        Due.due("book(20, 0)", x.book(20, 0), -2);
    }

    // ---- 48: about ----

    @Says(promise = 48, words = "0 GUESTS, 1 NIGHT, 2 MOMENT, 3 WINE, 4 X, 5 TEXTS, 6 THE TEXT (NONE), 7 STEPS that can be taken back, 8 who is THERE (bits), 9 bytes of the tape.")
    static void aboutAll() {
        LastWordAt x = new LastWordAt();
        int[] anew = {0, 0, 0, 0, 61, 0, -1, 0, 0, 0};
        for (int what = 0; what < 10; what++) {
            Due.due("about(" + what + ") of a new object", x.about(what), anew[what]);
        }
        for (int g = 0; g < 8; g++) {
            x.guest(g, 5, -1);
        }
        x.text();
        x.text();
        x.by(1);
        x.feed(0, 0, 0, 0, 0);
        x.dinner();
        x.years(0, 2);
        x.say(0, 2);
        x.say(1, 2);
        x.pass(3);
        x.send(6);
        int[] want = {8, 1, 4, 2, 9958, 2, 1, 8, 255 - 64 - 16, 20};
        for (int what = 0; what < 10; what++) {
            Due.due("about(" + what + ")", x.about(what), want[what]);
        }
    }

    @Says(promise = 48, words = "WINE 0 .. 99")
    static void theMostWine() {
        LastWordAt x = Edge.table(1);
        for (int i = 0; i < 41; i++) {
            x.say(0, 2);
        }
        Due.due("WINE", x.about(3), 40);
        Due.due("TOASTS", x.of(0, 5), 40);
        Due.due("WORDS", x.of(0, 4), 40);
    }

    @Says(promise = 48, words = "-2 for others.")
    static void aboutOthers() {
        LastWordAt x = new LastWordAt();
        for (int what : new int[] {-1, 10, -2, 11, Edge.MIN, Edge.MAX}) {
            Due.due("about(" + what + ")", x.about(what), -2);
        }
    }
}
