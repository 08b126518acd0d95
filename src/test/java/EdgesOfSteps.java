/** Promises 8 to 12, 14 and 15: what is done, what can't be, and what is taken back. */
final class EdgesOfSteps {
    // What a first draw does, by its seed: X is 61, 64, 67, 70, 73, 76, 79.
    private static final int SEED_PASSED = 0;
    private static final int SEED_OH = 1;
    private static final int SEED_ASKED = 2;
    private static final int SEED_WORD = 3;
    private static final int SEED_BYE = 4;
    private static final int SEED_DINNER = 5;
    private static final int SEED_TOAST = 6;

    private EdgesOfSteps() {
    }

    private static void fill(LastWordAt x) {
        for (int i = 0; i < 40; i++) {
            Due.due("asked", x.ask(), true);
        }
    }

    // ---- 8: say ----

    @Says(promise = 8, words = "SAID: the MOMENT in which it FALLS (NONE: never).")
    static void whenAWordFalls() {
        LastWordAt x = new LastWordAt();
        x.guest(5, 9, -1);
        x.guest(5, 2, -1);
        Due.due("at once", x.say(0, 0), 0);
        Due.due("later", x.say(1, 0), 3);
        x.pass(60);
        x.pass(39);
        Due.due("in the last MOMENT", x.say(0, 3), 99);
        Due.due("beyond the last MOMENT", x.say(1, 2), 102);
        Edge.rule(x, "counts 1>2;");
        Due.due("never", x.say(1, 1), -1);
        Due.due("log", x.log(4, 3), -1);
    }

    @Says(promise = 8, words = "-2, if it can't be, and for others.")
    static void whoCannotSpeak() {
        LastWordAt x = Edge.table(2);
        x.say(0, 3);
        Edge.untouched("those who can't", x, () -> {
            Due.due("one that is gone", x.say(0, 0), -2);
            Due.due("one that is gone, good night", x.say(0, 3), -2);
            Due.due("GUEST 2", x.say(2, 0), -2);
            Due.due("GUEST 8", x.say(8, 0), -2);
            Due.due("GUEST -1", x.say(-1, 0), -2);
            Due.due("the least GUEST", x.say(Edge.MIN, 0), -2);
            Due.due("the greatest GUEST", x.say(Edge.MAX, 0), -2);
            Due.due("KIND -1", x.say(1, -1), -2);
            Due.due("KIND 4", x.say(1, 4), -2);
            Due.due("the least KIND", x.say(1, Edge.MIN), -2);
            Due.due("the greatest KIND", x.say(1, Edge.MAX), -2);
        });
        Due.due("KIND 0", x.say(1, 0), 0);
        Due.due("KIND 3", x.say(1, 3), 0);
    }

    @Says(promise = 8, words = "SAID by a GUEST that is THERE, with a KIND 0 .. 3 (THE LOG isn't full)")
    static void theLogIsFullForWords() {
        LastWordAt x = Edge.table(1);
        for (int i = 0; i < 39; i++) {
            x.ask();
        }
        Due.due("the fortieth", x.say(0, 2), 0);
        for (int kind = 0; kind <= 3; kind++) {
            Due.due("full, KIND " + kind, x.say(0, kind), -2);
        }
        Due.due("THE LOG", x.log(-1, 0), 40);
        Due.due("THERE", x.of(0, 3), 1);
        Due.due("WORDS", x.of(0, 4), 1);
        Due.due("TOASTS", x.of(0, 5), 1);
        Due.due("WINE", x.about(3), 1);
        Due.due("STEPS", x.about(7), 30);
        Due.due("undo: of the fortieth", x.undo(), 29);
        Due.due("THE LOG", x.log(-1, 0), 39);
        Due.due("the fortieth again", x.say(0, 3), 0);
    }

    @Says(promise = 8, words = "it is in THE LOG; WORDS are one more, LAST is MOMENT; a toast: WINE and its TOASTS one more; a good night: it is gone.")
    static void whatDoesNotCountIsSaid() {
        LastWordAt x = Edge.table(2);
        Edge.rule(x, "counts 1>2;");
        x.pass(4);
        Due.due("a toast", x.say(0, 2), -1);
        Due.due("it is in THE LOG", x.log(-1, 0), 1);
        Due.due("WORDS", x.of(0, 4), 1);
        Due.due("LAST", x.of(0, 6), 4);
        Due.due("WINE", x.about(3), 1);
        Due.due("TOASTS", x.of(0, 5), 1);
        Due.due("good night", x.say(1, 3), -1);
        Due.due("it is gone", x.of(1, 3), 0);
        Due.due("WORDS of a good night", x.of(1, 4), 1);
        Due.due("no TOASTS of it", x.of(1, 5), 0);
        Due.due("an oh", x.say(0, 1), -1);
        Due.due("no more WINE", x.about(3), 1);
        Due.due("who would HOLD", x.holds(true), 0);
    }

    // ---- 9: ask ----

    @Says(promise = 9, words = "ASKED: true.")
    static void heAsksWithNobodyThere() {
        LastWordAt x = new LastWordAt();
        Due.due("without GUESTS", x.ask(), true);
        x.guest(1, 1, -1);
        x.send(0);
        Due.due("none is THERE", x.ask(), true);
        x.pass(60);
        x.pass(39);
        Due.due("in the last MOMENT", x.ask(), true);
        Due.due("it FALLS in MOMENT", x.log(2, 3), 99);
        Edge.rule(x, "counts 1>2;lag 9;");
        x.ask();
        Due.due("whatever the laws say", x.log(3, 3), 99);
    }

    @Says(promise = 9, words = "False, if it can't be.")
    static void theLogIsFullForHim() {
        LastWordAt x = new LastWordAt();
        fill(x);
        Due.due("full", x.ask(), false);
        Due.due("THE LOG", x.log(-1, 0), 40);
        Due.due("STEPS", x.about(7), 30);
        Due.due("undo", x.undo(), 29);
        Due.due("THE LOG", x.log(-1, 0), 39);
        Due.due("again", x.ask(), true);
        Due.due("full again", x.ask(), false);
        x.dinner();
        Due.due("a new evening", x.ask(), true);
    }

    @Says(promise = 9, words = "ASKED (the old man; THE LOG isn't full): it FALLS in MOMENT.")
    static void whatHeAskedInTheLog() {
        LastWordAt x = Edge.table(1);
        x.pass(7);
        x.ask();
        int[] want = {7, 8, 4, 7};
        for (int what = 0; what < 4; what++) {
            Due.due("log(0, " + what + ")", x.log(0, what), want[what]);
        }
    }

    // ---- 10: pass ----

    @Says(promise = 10, words = "PASSED (1 .. 60): MOMENT.")
    static void howManyPass() {
        LastWordAt x = new LastWordAt();
        Due.due("pass(1)", x.pass(1), 1);
        Due.due("pass(60)", x.pass(60), 61);
        Due.due("pass(38)", x.pass(38), 99);
    }

    @Says(promise = 10, words = "NONE for others, or beyond 99 (nothing is done then).")
    static void howManyCannotPass() {
        LastWordAt x = new LastWordAt();
        Due.due("pass(61), not beyond 99", x.pass(61), -1);
        Due.due("MOMENT", x.about(2), 0);
        x.guest(5, 5, 40);
        x.pass(40);
        Edge.untouched("others", x, () -> {
            Due.due("pass(0)", x.pass(0), -1);
            Due.due("pass(-1)", x.pass(-1), -1);
            Due.due("pass(61)", x.pass(61), -1);
            Due.due("the least", x.pass(Edge.MIN), -1);
            Due.due("the greatest", x.pass(Edge.MAX), -1);
            Due.due("pass(60), beyond 99", x.pass(60), -1);
        });
        Due.due("pass(59), just 99", x.pass(59), 99);
        Due.due("pass(1), beyond 99", x.pass(1), -1);
        Due.due("MOMENT", x.about(2), 99);
    }

    @Says(promise = 10, words = "PASSED: a MOMENT: GUESTS whose GOES is MOMENT are gone; MOMENT is one more (not beyond 99).")
    static void carriagesCome() {
        LastWordAt x = new LastWordAt();
        int[] goes = {0, 1, 98, 99, -1};
        for (int one : goes) {
            x.guest(5, 5, one);
        }
        Due.due("all THERE", x.about(8), 31);
        x.pass(1);
        Due.due("0 is gone", x.about(8), 30);
        x.pass(1);
        Due.due("1 is gone", x.about(8), 28);
        x.pass(60);
        x.pass(36);
        Due.due("MOMENT 98", x.about(2), 98);
        Due.due("98 is THERE yet", x.about(8), 28);
        x.pass(1);
        Due.due("98 is gone, 99 isn't", x.about(8), 24);
        Due.due("never beyond 99", x.pass(1), -1);
        Due.due("99 stays", x.about(8), 24);
        x.dinner();
        Due.due("a new evening", x.about(8), 31);
    }

    @Says(promise = 10, words = "PASSED (each)")
    static void eachMomentIsAStep() {
        LastWordAt x = new LastWordAt();
        x.guest(5, 5, 2);
        x.pass(5);
        Due.due("STEPS", x.about(7), 5);
        Due.due("undo", x.undo(), 4);
        Due.due("MOMENT", x.about(2), 4);
        x.undo();
        Due.due("its carriage came", x.of(0, 3), 0);
        x.undo();
        Due.due("its carriage didn't come yet", x.of(0, 3), 1);
        Due.due("MOMENT", x.about(2), 2);
        x.pass(60);
        Due.due("the latest 30", x.about(7), 30);
    }

    // ---- 11: send ----

    @Says(promise = 11, words = "SENT: true.")
    static void oneIsSentAway() {
        LastWordAt x = Edge.table(8);
        Due.due("send(0)", x.send(0), true);
        Due.due("send(7)", x.send(7), true);
        Due.due("THERE", x.about(8), 126);
        Due.due("THE LOG", x.log(-1, 0), 0);
        Due.due("LAST", x.of(0, 6), -1);
    }

    @Says(promise = 11, words = "False, if it can't be, and for others.")
    static void whoCannotBeSent() {
        LastWordAt x = Edge.table(3);
        x.guest(5, 5, 0);
        x.send(0);
        x.say(1, 3);
        x.pass(1);
        Edge.untouched("those who can't", x, () -> {
            Due.due("one that was SENT", x.send(0), false);
            Due.due("one that said good night", x.send(1), false);
            Due.due("one whose carriage came", x.send(3), false);
            Due.due("GUEST 4", x.send(4), false);
            Due.due("GUEST 8", x.send(8), false);
            Due.due("GUEST -1", x.send(-1), false);
            Due.due("the least", x.send(Edge.MIN), false);
            Due.due("the greatest", x.send(Edge.MAX), false);
        });
        Due.due("one that is THERE", x.send(2), true);
        x.dinner();
        Due.due("a new evening", x.send(0), true);
    }

    @Says(promise = 11, words = "SENT away: a GUEST that is THERE is gone.")
    static void theLogIsFullOneCanBeSent() {
        LastWordAt x = Edge.table(1);
        fill(x);
        Due.due("send(0)", x.send(0), true);
        Due.due("gone", x.of(0, 3), 0);
    }

    // ---- 12: dinner ----

    @Says(promise = 12, words = "A DINNER ENDS: who HOLDS (bits).")
    static void whoHoldsWhenItEnds() {
        LastWordAt x = Edge.table(8);
        Due.due("nothing was said", x.dinner(), 0);
        x.ask();
        Due.due("just he", x.dinner(), 0);
        x.say(7, 0);
        Due.due("the last GUEST, not ahead of MOMENT", x.dinner(), 128);
        for (int g = 0; g < 8; g++) {
            x.say(g, 3);
        }
        Due.due("all, though gone", x.dinner(), 255);
        Due.due("without GUESTS", new LastWordAt().dinner(), 0);
        for (int i = 0; i < 4; i++) {
            Due.due("written down", x.book(i, 1), new int[] {0, 0, 128, 255}[i]);
        }
    }

    @Says(promise = 12, words = "NONE beyond NIGHT 999.")
    static void theLastNight() {
        LastWordAt x = Edge.table(1);
        Edge.toNight(x, 998);
        x.say(0, 0);
        Due.due("NIGHT 998 ends", x.dinner(), 1);
        Due.due("NIGHT", x.about(1), 999);
        Due.due("written down", x.book(19, 0), 998);
        x.say(0, 0);
        x.pass(2);
        int steps = x.about(7);
        Due.due("NIGHT 999 doesn't", x.dinner(), -1);
        Due.due("NIGHT", x.about(1), 999);
        Due.due("MOMENT", x.about(2), 2);
        Due.due("THE LOG", x.log(-1, 0), 1);
        Due.due("STEPS", x.about(7), steps);
        Due.due("written down", x.book(19, 0), 998);
        for (int i = 0; i < 4; i++) {
            x.undo();
        }
        Due.due("NIGHT, taken back", x.about(1), 998);
        Due.due("it can end again", x.dinner(), 1);
    }

    @Says(promise = 12, words = "A DINNER ENDS: it is written down (the latest 20): NIGHT, WOULD HOLD (bits), dies")
    static void theLatestTwenty() {
        LastWordAt x = Edge.table(2);
        Edge.rule(x, "dies night;");
        for (int i = 0; i < 20; i++) {
            x.say(i % 2, 0);
            x.dinner();
        }
        Due.due("twenty", x.book(-1, 0), 20);
        Due.due("the eldest", x.book(0, 0), 0);
        Due.due("the latest", x.book(19, 0), 19);
        x.dinner();
        Due.due("twenty yet", x.book(-1, 0), 20);
        for (int i = 0; i < 20; i++) {
            Due.due("NIGHT of " + i, x.book(i, 0), i + 1);
            Due.due("who HELD in " + i, x.book(i, 1), i == 19 ? 0 : (i + 1) % 2 + 1);
            Due.due("dies of " + i, x.book(i, 2), i + 1);
        }
        Due.due("undo", x.undo(), 29);
        Due.due("the eldest is back", x.book(0, 0), 0);
        Due.due("the latest", x.book(19, 0), 19);
    }

    @Says(promise = 12, words = "then NIGHT is one more, MOMENT 0, WINE 0, THE LOG empty, all as told tonight at first.")
    static void anEveningAnew() {
        LastWordAt x = new LastWordAt();
        x.guest(5, 5, -1);
        x.guest(5, 1, 1);
        x.guest(5, 5, -1);
        x.say(0, 2);
        x.say(1, 0);
        x.pass(3);
        x.say(0, 3);
        x.send(2);
        Due.due("nobody is THERE", x.about(8), 0);
        x.dinner();
        Due.due("NIGHT", x.about(1), 1);
        Due.due("MOMENT", x.about(2), 0);
        Due.due("WINE", x.about(3), 0);
        Due.due("THE LOG", x.log(-1, 0), 0);
        Due.due("log(0, 0)", x.log(0, 0), -2);
        for (int g = 0; g < 3; g++) {
            Due.due("THERE", x.of(g, 3), 1);
            Due.due("WORDS", x.of(g, 4), 0);
            Due.due("TOASTS", x.of(g, 5), 0);
            Due.due("LAST", x.of(g, 6), -1);
        }
        Due.due("nobody HOLDS", x.holds(true), 0);
        Due.due("RANK", x.of(1, 0), 5);
        Due.due("GOES", x.of(1, 2), 1);
    }

    // ---- 14: years ----

    @Says(promise = 14, words = "NONE for others, and without GUESTS.")
    static void yearsThatCannotBe() {
        LastWordAt x = new LastWordAt();
        Edge.untouched("nobody", x, () -> {
            Due.due("without GUESTS", x.years(0, 1), -1);
            Due.due("without GUESTS", x.years(9999, 40), -1);
        });
        x.guest(5, 5, -1);
        Edge.untouched("others", x, () -> {
            Due.due("SEED -1", x.years(-1, 1), -1);
            Due.due("SEED 10000", x.years(10000, 1), -1);
            Due.due("the least SEED", x.years(Edge.MIN, 1), -1);
            Due.due("the greatest SEED", x.years(Edge.MAX, 1), -1);
            Due.due("n 0", x.years(0, 0), -1);
            Due.due("n -1", x.years(0, -1), -1);
            Due.due("n 41", x.years(0, 41), -1);
            Due.due("the least n", x.years(0, Edge.MIN), -1);
            Due.due("the greatest n", x.years(0, Edge.MAX), -1);
        });
    }

    @Says(promise = 14, words = "YEARS by a SEED: X is SEED (0 .. 9999) * 3 + 61; n times (1 .. 40)")
    static void theLeastAndTheGreatestSeed() {
        LastWordAt x = Edge.table(1);
        Due.due("years(0, 1)", x.years(0, 1), 0);
        Due.due("X", x.about(4), 16572);
        Due.due("years(9999, 1)", x.years(9999, 1), 0);
        Due.due("X", x.about(4), (30058 * 269 + 163) % 30259);
        Due.due("anew by the SEED, not by X", x.years(0, 1), 0);
        Due.due("X", x.about(4), 16572);
        int at = 61;
        for (int i = 0; i < 40; i++) {
            at = (at * 269 + 163) % 30259;
        }
        x.years(0, 40);
        Due.due("X behind forty", x.about(4), at);
    }

    @Says(promise = 14, words = "0 to 3 the GUEST X mod how many there are SAID it with that KIND")
    static void whoSpeaksInYears() {
        // X is 70, 64, 79, 73.
        int[] seeds = {SEED_WORD, SEED_OH, SEED_TOAST, SEED_BYE};
        int[] drawn = {70, 64, 79, 73};
        for (int guests = 1; guests <= 8; guests++) {
            for (int kind = 0; kind < 4; kind++) {
                LastWordAt x = Edge.table(guests);
                Due.due("years", x.years(seeds[kind], 1), 0);
                Due.due("THE LOG", x.log(-1, 0), 1);
                Due.due("who of " + guests, x.log(0, 1), drawn[kind] % guests);
                Due.due("KIND", x.log(0, 2), kind);
                Due.due("WINE", x.about(3), kind == 2 ? 1 : 0);
                Due.due("THERE", x.of(drawn[kind] % guests, 3), kind == 3 ? 0 : 1);
            }
        }
    }

    @Says(promise = 14, words = "if it is THERE and THE LOG isn't full")
    static void whoCannotSpeakInYears() {
        LastWordAt x = Edge.table(1);
        x.send(0);
        for (int seed : new int[] {SEED_WORD, SEED_OH, SEED_TOAST, SEED_BYE}) {
            Due.due("one that is gone", x.years(seed, 1), 0);
        }
        Due.due("THE LOG", x.log(-1, 0), 0);
        Due.due("each is a STEP", x.about(7), 5);
        // Of those told, not of those THERE: X is 70, and 70 mod 3 is GUEST 1, gone.
        LastWordAt y = Edge.table(3);
        y.send(1);
        y.years(SEED_WORD, 1);
        Due.due("another one doesn't speak for it", y.log(-1, 0), 0);
        LastWordAt z = Edge.table(1);
        fill(z);
        for (int seed : new int[] {SEED_WORD, SEED_OH, SEED_TOAST, SEED_BYE}) {
            Due.due("full", z.years(seed, 1), 0);
        }
        Due.due("THE LOG", z.log(-1, 0), 40);
        Due.due("THERE", z.of(0, 3), 1);
        Due.due("WORDS", z.of(0, 4), 0);
        Due.due("WINE", z.about(3), 0);
    }

    @Says(promise = 14, words = "4 ASKED, if it isn't full")
    static void heAsksInYears() {
        LastWordAt x = Edge.table(1);
        for (int i = 0; i < 39; i++) {
            x.ask();
        }
        Due.due("the fortieth", x.years(SEED_ASKED, 1), 0);
        Due.due("THE LOG", x.log(-1, 0), 40);
        Due.due("who", x.log(39, 1), 8);
        Due.due("KIND", x.log(39, 2), 4);
        Due.due("it FALLS", x.log(39, 3), 0);
        Due.due("full", x.years(SEED_ASKED, 1), 0);
        Due.due("THE LOG", x.log(-1, 0), 40);
        Due.due("X is anew all the same", x.about(4), (67 * 269 + 163) % 30259);
    }

    @Says(promise = 14, words = "5 PASSED, if MOMENT is below 99")
    static void momentsPassInYears() {
        LastWordAt x = new LastWordAt();
        x.guest(5, 5, 98);
        x.guest(5, 5, 99);
        x.pass(60);
        x.pass(38);
        Due.due("years", x.years(SEED_PASSED, 1), 0);
        Due.due("MOMENT", x.about(2), 99);
        Due.due("a carriage came", x.about(8), 2);
        Due.due("years", x.years(SEED_PASSED, 1), 0);
        Due.due("MOMENT stays", x.about(2), 99);
        Due.due("THERE", x.about(8), 2);
    }

    @Says(promise = 14, words = "6 a DINNER ENDS (999 stays: then nothing)")
    static void dinnersEndInYears() {
        LastWordAt x = Edge.table(1);
        Edge.toNight(x, 998);
        x.say(0, 0);
        Due.due("NIGHT 998 ends", x.years(SEED_DINNER, 1), 1);
        Due.due("NIGHT", x.about(1), 999);
        Due.due("who HELD", x.book(19, 1), 1);
        x.say(0, 2);
        x.pass(1);
        Due.due("NIGHT 999 stays", x.years(SEED_DINNER, 1), 0);
        Due.due("NIGHT", x.about(1), 999);
        Due.due("MOMENT", x.about(2), 1);
        Due.due("THE LOG", x.log(-1, 0), 1);
        Due.due("written down", x.book(19, 0), 998);
        Due.due("X is anew all the same", x.about(4), (76 * 269 + 163) % 30259);
    }

    @Says(promise = 14, words = "X anew: (X * 269 + 163) mod 30259.")
    static void drawsOneBehindTheOther() {
        LastWordAt x = Edge.table(3);
        int at = 30058;
        for (int n = 1; n <= 40; n++) {
            at = (at * 269 + 163) % 30259;
            x.years(9999, n);
            Due.due("X behind " + n, x.about(4), at);
        }
    }

    @Says(promise = 14, words = "It is one STEP: how many DINNERS ended.")
    static void yearsAreOneStep() {
        LastWordAt x = Edge.table(2);
        x.say(1, 2);
        String ahead = Edge.imaged(x);
        int ended = x.years(1234, 40);
        Due.due("NIGHT", x.about(1), ended);
        Due.due("some ended", ended > 0, true);
        Due.due("one STEP more", x.about(7), 2);
        Due.due("undo", x.undo(), 1);
        Due.same("all is as ahead of it", Edge.imaged(x), ahead);
        x.send(0);
        Due.due("years by which nothing is done", x.years(SEED_WORD, 1), 0);
        Due.due("THE LOG", x.log(-1, 0), 1);
        Due.due("they are a STEP, too", x.about(7), 3);
    }

    @Says(promise = 14, words = "YEARS: how many DINNERS ended.")
    static void howManyDinnersEnded() {
        LastWordAt x = Edge.table(1);
        int at = 5 * 3 + 61;
        int ended = 0;
        for (int i = 0; i < 40; i++) {
            ended += at % 7 == 6 ? 1 : 0;
            at = (at * 269 + 163) % 30259;
        }
        Due.due("one", x.years(SEED_DINNER, 1), 1);
        Due.due("of forty", x.years(SEED_DINNER, 40), ended);
        Due.due("NIGHT", x.about(1), 1 + ended);
        Due.due("none", x.years(SEED_WORD, 1), 0);
    }

    // ---- 15: undo ----

    @Says(promise = 15, words = "NONE: there is none.")
    static void nothingToTakeBack() {
        LastWordAt x = new LastWordAt();
        Due.due("a new object", x.undo(), -1);
        x.guest(5, 5, -1);
        Due.read(x, "ask;");
        x.by(0);
        x.odds(0, 0, 1);
        x.falls(0, 1);
        x.image();
        Due.due("none of these is a STEP", x.about(7), 0);
        Edge.untouched("undo without STEPS", x, () -> Due.due("undo", x.undo(), -1));
        x.ask();
        Due.due("one", x.undo(), 0);
        Due.due("none", x.undo(), -1);
    }

    @Says(promise = 15, words = "The latest STEP is taken back: how many can be yet.")
    static void eachKindOfStep() {
        LastWordAt x = Edge.table(2);
        String[] ahead = new String[6];
        ahead[0] = Edge.tonight(x);
        x.say(0, 2);
        ahead[1] = Edge.tonight(x);
        x.ask();
        ahead[2] = Edge.tonight(x);
        x.pass(1);
        ahead[3] = Edge.tonight(x);
        x.send(1);
        ahead[4] = Edge.tonight(x);
        x.dinner();
        ahead[5] = Edge.tonight(x);
        x.years(77, 30);
        for (int left = 5; left >= 0; left--) {
            Due.due("undo", x.undo(), left);
            Due.same("as ahead of STEP " + left, Edge.tonight(x), ahead[left]);
        }
    }

    @Says(promise = 15, words = "the latest 30 can be taken back, the latest first")
    static void theLatestThirty() {
        LastWordAt x = new LastWordAt();
        x.pass(29);
        Due.due("29", x.about(7), 29);
        x.pass(1);
        Due.due("30", x.about(7), 30);
        x.pass(1);
        Due.due("30 yet", x.about(7), 30);
        x.pass(44);
        for (int left = 29; left >= 0; left--) {
            Due.due("undo", x.undo(), left);
            Due.due("MOMENT", x.about(2), 45 + left);
        }
        Due.due("the 31st is gone", x.undo(), -1);
        Due.due("MOMENT", x.about(2), 45);
        x.pass(2);
        Due.due("two anew", x.about(7), 2);
        Due.due("undo", x.undo(), 1);
        Due.due("MOMENT", x.about(2), 46);
    }

    @Says(promise = 15, words = "(NIGHT, MOMENT, WINE, X, all of tonight, THE LOG, what is written down are as ahead of it; GUESTS told since are THERE, and said nothing).")
    static void guestsToldSince() {
        LastWordAt x = Edge.table(1);
        x.say(0, 0);
        x.guest(6, 6, 0);
        x.say(1, 2);
        x.pass(1);
        x.guest(7, 7, -1);
        x.say(2, 3);
        x.dinner();
        x.guest(8, 8, -1);
        x.send(3);
        int[] there = {15, 9, 13, 15, 15, 15};
        // SENT, a DINNER, good night of 2, PASSED (1's carriage), a toast, a word: one after the other.
        Due.due("undo SENT", x.undo(), 5);
        Due.due("all THERE", x.about(8), there[0]);
        Due.due("undo the DINNER", x.undo(), 4);
        Due.due("1 and 2 are gone", x.about(8), there[1]);
        Due.due("3, told since, said nothing", x.of(3, 4), 0);
        Due.due("3 spoke never", x.of(3, 6), -1);
        Due.due("undo good night", x.undo(), 3);
        Due.due("1 is gone", x.about(8), there[2]);
        Due.due("undo PASSED", x.undo(), 2);
        Due.due("all THERE", x.about(8), there[3]);
        Due.due("undo the toast", x.undo(), 1);
        Due.due("1 is THERE", x.about(8), there[4]);
        Due.due("1 said nothing", x.of(1, 4), 0);
        Due.due("no TOASTS", x.of(1, 5), 0);
        Due.due("undo the word", x.undo(), 0);
        Due.due("GUESTS stay told", x.about(0), 4);
        Due.due("all THERE", x.about(8), there[5]);
        Due.due("RANK of 3", x.of(3, 0), 8);
    }

    @Says(promise = 15, words = "all of tonight, THE LOG, what is written down are as ahead of it")
    static void whatIsNoStepStays() {
        LastWordAt x = Edge.table(1);
        x.pass(1);
        Edge.rule(x, "lag 4;");
        x.odds(0, 0, 73);
        x.falls(3, 1);
        Due.tape(x, "ask;");
        Due.due("undo", x.undo(), 0);
        Due.due("MOMENT", x.about(2), 0);
        Due.due("TEXTS", x.about(5), 1);
        Due.due("THE TEXT", x.about(6), 0);
        Due.due("it rules", x.of(0, 7), 4);
        Due.due("the tape", x.about(9), 4);
        Edge.fraction("ODDS", x.when(0, 1, 0, 1), x.when(0, 1, 0, 2), 73, 100);
        Due.due("who FALLS", x.words(0, 4, 0, 1, 1) > 0, true);
    }
}
