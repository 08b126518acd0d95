/** Promises 46 and 47, and what changes nothing. */
final class EdgesOfTheImage {
    private EdgesOfTheImage() {
    }

    // ---- 46: image ----

    @Says(promise = 46, words = "THE IMAGE is as all is now: NIGHT.")
    static void theImageIsAnew() {
        LastWordAt x = Edge.table(1);
        Due.due("NIGHT 0", x.image(), 0);
        x.dinner();
        Due.due("NIGHT 1", x.image(), 1);
        x.dinner();
        Due.due("the latest image", x.back(), 1);
        Due.due("NIGHT", x.about(1), 1);
        Due.due("it is no STEP", x.about(7), 1);
        LastWordAt late = new LastWordAt();
        Edge.toNight(late, 999);
        Due.due("NIGHT 999", late.image(), 999);
    }

    @Says(promise = 46, words = "AN IMAGE: all as it is, but the tape and the latest FAULT.")
    static void theTapeAndTheFaultStay() {
        LastWordAt x = Edge.table(1);
        Due.read(x, "ask;?");
        Due.tape(x, "ask;");
        x.image();
        Due.read(x, "say 8;");
        Due.tape(x, "dinner;");
        x.back();
        Due.due("the tape", x.about(9), 7);
        Due.due("the FAULT", x.fault(0), 2);
        Due.due("its place", x.fault(1), 4);
        Due.due("the tape is read", x.text(), 0);
        x.back();
        Due.due("the TEXT is gone", x.about(5), 0);
        Due.due("the latest one had no FAULT", x.fault(0), 0);
        LastWordAt y = new LastWordAt();
        Due.read(y, "?");
        y.back();
        Due.due("a FAULT stays behind a new object's image", y.fault(0), 1);
    }

    // ---- 47: back ----

    @Says(promise = 47, words = "BACK to THE IMAGE (it stays): NIGHT.")
    static void backAndBackAgain() {
        LastWordAt x = Edge.table(2);
        x.say(0, 2);
        x.dinner();
        x.say(1, 3);
        Edge.list(x, 0, 1, 2, 3, 4, 5, 6);
        Edge.list(x, 1, 11, 12, 13, 14, 15, 16);
        x.falls(4, 2);
        x.image();
        String all = Edge.imaged(x);
        x.guest(9, 9, 9);
        x.undo();
        x.dinner();
        Edge.list(x, 0, 50, 50, 50, 50, 50, 50);
        Edge.list(x, 1, 60, 60, 60, 60, 60, 60);
        x.falls(3, 3);
        x.years(3, 3);
        Due.due("back", x.back(), 1);
        Due.same("all is so again", Edge.imaged(x), all);
        x.undo();
        x.undo();
        x.undo();
        Due.due("nothing is left", x.about(7), 0);
        Due.due("back again", x.back(), 1);
        Due.same("all is so again", Edge.imaged(x), all);
    }

    @Says(promise = 47, words = "BACK: all is so again.")
    static void stepsAreBack() {
        LastWordAt x = Edge.table(1);
        x.pass(35);
        x.image();
        for (int i = 0; i < 28; i++) {
            x.ask();
        }
        x.back();
        for (int left = 29; left >= 0; left--) {
            Due.due("undo", x.undo(), left);
            Due.due("MOMENT", x.about(2), 5 + left);
        }
        Due.due("the latest 30", x.undo(), -1);
        x.back();
        x.pass(1);
        Due.due("undo", x.undo(), 29);
        Due.due("undo", x.undo(), 28);
        Due.due("MOMENT", x.about(2), 34);
    }

    @Says(promise = 47, words = "BACK: all is so again.")
    static void textsAreBack() {
        LastWordAt x = Edge.table(1);
        Due.read(x, "lag 1;");
        x.by(0);
        x.image();
        for (int i = 1; i < 4; i++) {
            Due.due("text", Due.read(x, "lag " + (i + 1) + ";"), i);
        }
        x.by(3);
        Due.due("the fourth rules", x.of(0, 7), 4);
        x.back();
        Due.due("TEXTS", x.about(5), 1);
        Due.due("THE TEXT", x.about(6), 0);
        Due.due("it rules", x.of(0, 7), 1);
        Due.due("by(1)", x.by(1), false);
        Due.due("played(1)", x.played(1), -2);
        Due.due("another one", Due.read(x, "lag 50;"), 1);
        x.by(1);
        Due.due("it rules", x.of(0, 7), 50);
    }

    @Says(promise = 47, words = "BACK: all is so again.")
    static void guestsAreBack() {
        LastWordAt x = Edge.table(2);
        x.image();
        for (int g = 2; g < 8; g++) {
            Due.due("guest", x.guest(9, 9, 9), g);
        }
        x.falls(0, 255);
        x.back();
        Due.due("GUESTS", x.about(0), 2);
        Due.due("of(2, 0)", x.of(2, 0), -2);
        Due.due("say(2, 0)", x.say(2, 0), -2);
        Due.due("falls(0, 4)", x.falls(0, 4), false);
        Edge.list(x, 0, 100);
        Due.due("none FALLS", x.words(1, 1, 0, 0, 1), 0);
        Due.due("the next number", x.guest(1, 1, 1), 2);
        Due.due("it is THERE", x.of(2, 3), 1);
        Due.due("GOES", x.of(2, 2), 1);
    }

    // ---- what changes nothing ----

    @Says(promise = 47, words = "All that follows changes nothing.")
    static void whatIsAskedChangesNothing() {
        LastWordAt x = Edge.table(3);
        x.say(0, 2);
        x.pass(1);
        x.dinner();
        x.say(1, 0);
        x.say(2, 2);
        x.pass(2);
        x.falls(2, 3);
        x.odds(0, 1, 40);
        Edge.untouched("all that is asked", x, () -> {
            Due.due("about", x.about(0), 3);
            for (int g : new int[] {-1, 0, 2, 3}) {
                for (int i : new int[] {-1, 0, 1, 6}) {
                    askOfTheBook(x, g, i);
                    askOfTheLog(x, g, i);
                    askAhead(x, g, i);
                }
            }
        });
    }

    private static void askOfTheBook(LastWordAt x, int g, int i) {
        x.inherits(g, i, true);
        x.open(i, false);
        x.thatNight(g, 1, i, true);
        x.tally(g, i == 0);
        x.longest(i == 0);
        x.which(g);
    }

    private static void askOfTheLog(LastWordAt x, int g, int i) {
        x.whispered(i, g);
        x.twoWhispered(i, g, 1, i);
        x.held(g);
        x.stays(i);
        x.round(5, i);
        x.provoked(g, i);
        x.unsaid(g);
    }

    private static void askAhead(LastWordAt x, int g, int i) {
        x.when(g, i, 0, 0);
        x.words(g, i, 2, 1, 1);
        x.game(i, 2);
        x.cough(g, i, 5, true);
    }
}
