/** Promises 1, 2, 8 to 12, 14 to 19, 46 to 48: what is told, STEPS, and what is so. */
public final class TableTest {
    public static void main(String[] args) {
        aNewObject();
        guests();
        sayings();
        theLogIsFull();
        asking();
        passing();
        sending();
        dinners();
        nights();
        years();
        undoing();
        undoneGuests();
        images();
        Due.finish();
    }

    private static void aNewObject() {
        LastWordAt x = new LastWordAt();
        long[] about = {0, 0, 0, 0, 61, 0, -1, 0, 0, 0};
        for (int i = 0; i < about.length; i++) {
            Due.due("new about(" + i + ")", x.about(i), about[i]);
        }
        Due.due("about(-1)", x.about(-1), -2);
        Due.due("about(10)", x.about(10), -2);
        Due.due("of(0, 0)", x.of(0, 0), -2);
        Due.due("holds", x.holds(false), 0);
        Due.due("holds later", x.holds(true), 0);
        Due.due("log", x.log(-1, 0), 0);
        Due.due("book", x.book(-1, 0), 0);
        Due.due("undo", x.undo(), -1);
        x.guest(1, 2, 3);
        x.pass(2);
        Due.due("back", x.back(), 0);
        Due.due("about(0) then", x.about(0), 0);
        Due.due("about(2) then", x.about(2), 0);
        Due.due("about(7) then", x.about(7), 0);
    }

    private static void guests() {
        LastWordAt x = new LastWordAt();
        Due.due("rank -1", x.guest(-1, 0, 0), -1);
        Due.due("rank 10", x.guest(10, 0, 0), -1);
        Due.due("hears -1", x.guest(0, -1, 0), -1);
        Due.due("hears 10", x.guest(0, 10, 0), -1);
        Due.due("goes -2", x.guest(0, 0, -2), -1);
        Due.due("goes 100", x.guest(0, 0, 100), -1);
        for (int g = 0; g < 8; g++) {
            Due.due("guest " + g, x.guest(g, 9 - g, g == 0 ? -1 : g == 1 ? 99 : g), g);
        }
        Due.due("the ninth", x.guest(1, 1, 1), -1);
        Due.due("about(0)", x.about(0), 8);
        Due.due("about(8)", x.about(8), 255);
        Due.due("rank", x.of(3, 0), 3);
        Due.due("hears", x.of(3, 1), 6);
        Due.due("goes", x.of(3, 2), 3);
        Due.due("goes none", x.of(0, 2), -1);
        Due.due("goes 99", x.of(1, 2), 99);
        Due.due("there", x.of(3, 3), 1);
        Due.due("words", x.of(3, 4), 0);
        Due.due("toasts", x.of(3, 5), 0);
        Due.due("last", x.of(3, 6), -1);
        Due.due("would fall, hears 3", x.of(6, 7), 0);
        Due.due("would fall, hears 2", x.of(7, 7), 3);
        Due.due("of(3, 8)", x.of(3, 8), -2);
        Due.due("of(3, -1)", x.of(3, -1), -2);
        Due.due("of(8, 0)", x.of(8, 0), -2);
        Due.due("of(-1, 0)", x.of(-1, 0), -2);
        Due.due("steps", x.about(7), 0);
    }

    private static void sayings() {
        LastWordAt x = new LastWordAt();
        x.guest(1, 5, -1);
        x.guest(2, 1, -1);
        Due.due("say(2, 0)", x.say(2, 0), -2);
        Due.due("say(-1, 0)", x.say(-1, 0), -2);
        Due.due("say(0, 4)", x.say(0, 4), -2);
        Due.due("say(0, -1)", x.say(0, -1), -2);
        Due.due("steps", x.about(7), 0);
        x.pass(4);
        Due.due("oh", x.say(1, 1), 7);
        Due.due("toast", x.say(0, 2), 4);
        Due.due("wine", x.about(3), 1);
        Due.due("toasts", x.of(0, 5), 1);
        Due.due("toasts of the other", x.of(1, 5), 0);
        Due.due("words", x.of(1, 4), 1);
        Due.due("last", x.of(1, 6), 4);
        Due.due("holds", x.holds(false), 0);
        Due.due("holds later", x.holds(true), 2);
        x.pass(1);
        Due.due("holds", x.holds(false), 1);
        Due.due("good night", x.say(0, 3), 5);
        Due.due("gone", x.of(0, 3), 0);
        Due.due("about(8)", x.about(8), 2);
        Due.due("gone, a word would fall", x.of(0, 7), 5);
        Due.due("gone", x.say(0, 0), -2);
        Due.due("words with good night", x.of(0, 4), 2);
        Due.due("log", x.log(-1, 0), 3);
        int[][] log = {{4, 1, 1, 7}, {4, 0, 2, 4}, {5, 0, 3, 5}};
        for (int i = 0; i < 3; i++) {
            for (int what = 0; what < 4; what++) {
                Due.due("log(" + i + ", " + what + ")", x.log(i, what), log[i][what]);
            }
        }
        Due.due("log(3, 0)", x.log(3, 0), -2);
        Due.due("log(-2, 0)", x.log(-2, 0), -2);
        Due.due("log(0, 4)", x.log(0, 4), -2);
        Due.due("log(0, -1)", x.log(0, -1), -2);
    }

    private static void theLogIsFull() {
        LastWordAt x = new LastWordAt();
        x.guest(1, 5, -1);
        for (int i = 0; i < 40; i++) {
            Due.due("word " + i, x.say(0, i % 3), 0);
        }
        Due.due("words", x.of(0, 4), 40);
        Due.due("toasts", x.of(0, 5), 13);
        Due.due("full", x.say(0, 0), -2);
        Due.due("full, good night", x.say(0, 3), -2);
        Due.due("full, asked", x.ask(), false);
        Due.due("steps", x.about(7), 30);
        Due.due("would fall all the same", x.of(0, 7), 0);
        Due.due("there yet", x.of(0, 3), 1);
        x.undo();
        Due.due("asked", x.ask(), true);
        Due.due("its who", x.log(39, 1), 8);
        Due.due("full again", x.ask(), false);
        x.dinner();
        Due.due("a new one", x.say(0, 0), 0);
    }

    private static void asking() {
        LastWordAt x = new LastWordAt();
        Due.due("ask with nobody", x.ask(), true);
        x.guest(1, 5, -1);
        x.pass(2);
        x.ask();
        Due.due("moment", x.log(1, 0), 2);
        Due.due("who", x.log(1, 1), 8);
        Due.due("kind", x.log(1, 2), 4);
        Due.due("falls", x.log(1, 3), 2);
        Due.due("just he", x.holds(true), 0);
        x.say(0, 0);
        Due.due("with him", x.holds(true), 1);
        Due.due("steps", x.about(7), 5);
    }

    private static void passing() {
        LastWordAt x = new LastWordAt();
        x.guest(1, 5, 0);
        x.guest(1, 5, 60);
        x.guest(1, 5, 99);
        Due.due("pass(0)", x.pass(0), -1);
        Due.due("pass(61)", x.pass(61), -1);
        Due.due("pass(-1)", x.pass(-1), -1);
        Due.due("pass(60)", x.pass(60), 60);
        Due.due("there", x.about(8), 6);
        Due.due("steps", x.about(7), 30);
        Due.due("pass(40)", x.pass(40), -1);
        Due.due("moment", x.about(2), 60);
        Due.due("there", x.about(8), 6);
        Due.due("pass(39)", x.pass(39), 99);
        Due.due("there", x.about(8), 4);
        Due.due("pass(1)", x.pass(1), -1);
        x.guest(0, 0, 3);
        Due.due("told behind its carriage", x.of(3, 3), 1);
        Due.due("beyond the last moment", x.say(3, 0), 102);
        Due.due("undo", x.undo(), 29);
        Due.due("moment", x.about(2), 99);
        Due.due("undo", x.undo(), 28);
        Due.due("moment", x.about(2), 98);
    }

    private static void sending() {
        LastWordAt x = new LastWordAt();
        x.guest(1, 5, -1);
        Due.due("send(1)", x.send(1), false);
        Due.due("send(-1)", x.send(-1), false);
        Due.due("send(0)", x.send(0), true);
        Due.due("there", x.of(0, 3), 0);
        Due.due("send(0) again", x.send(0), false);
        Due.due("steps", x.about(7), 1);
        Due.due("said nothing", x.log(-1, 0), 0);
    }

    private static void dinners() {
        LastWordAt x = new LastWordAt();
        x.guest(1, 5, -1);
        x.guest(2, 1, 2);
        x.say(0, 2);
        x.say(1, 0);
        x.pass(3);
        x.say(0, 3);
        Due.due("dinner", x.dinner(), 3);
        Due.due("night", x.about(1), 1);
        Due.due("moment", x.about(2), 0);
        Due.due("wine", x.about(3), 0);
        Due.due("there", x.about(8), 3);
        Due.due("log", x.log(-1, 0), 0);
        Due.due("words", x.of(0, 4), 0);
        Due.due("toasts", x.of(0, 5), 0);
        Due.due("last", x.of(0, 6), -1);
        Due.due("book", x.book(-1, 0), 1);
        Due.due("book night", x.book(0, 0), 0);
        Due.due("book who", x.book(0, 1), 3);
        Due.due("book dies", x.book(0, 2), 10);
        Due.due("book(0, 3)", x.book(0, 3), -2);
        Due.due("book(0, -1)", x.book(0, -1), -2);
        Due.due("book(1, 0)", x.book(1, 0), -2);
        Due.due("book(-2, 0)", x.book(-2, 0), -2);
        for (int i = 0; i < 22; i++) {
            x.dinner();
        }
        Due.due("book is full", x.book(-1, 0), 20);
        Due.due("the eldest", x.book(0, 0), 3);
        Due.due("the latest", x.book(19, 0), 22);
        Due.due("undo", x.undo(), 28);
        Due.due("the eldest", x.book(0, 0), 2);
        Due.due("the latest", x.book(19, 0), 21);
    }

    private static void nights() {
        LastWordAt x = new LastWordAt();
        x.guest(5, 5, -1);
        StringBuilder text = new StringBuilder();
        for (int i = 0; i < 24; i++) {
            text.append("dinner;");
        }
        Due.due("text", Due.read(x, text.toString()), 0);
        for (int i = 0; i < 41; i++) {
            Due.due("played", x.played(0), -1);
        }
        Due.due("night", x.about(1), 984);
        Due.due("played", x.played(0), 15);
        Due.due("night", x.about(1), 999);
        Due.due("dinner", x.dinner(), -1);
        Due.due("steps", x.about(7), 30);
        x.say(0, 0);
        Due.due("years", x.years(1, 40), 0);
        Due.due("night", x.about(1), 999);
        Due.due("book", x.book(19, 0), 998);
    }

    private static void years() {
        LastWordAt x = new LastWordAt();
        Due.due("nobody", x.years(0, 1), -1);
        x.guest(5, 5, -1);
        x.guest(5, 1, 3);
        Due.due("seed -1", x.years(-1, 1), -1);
        Due.due("seed 10000", x.years(10000, 1), -1);
        Due.due("n 0", x.years(0, 0), -1);
        Due.due("n 41", x.years(0, 41), -1);
        Due.due("steps", x.about(7), 0);
        Due.due("x", x.about(4), 61);
        // 61: passed; 16572: the first GUEST's good night; 9958 mod 7 is 4: asked.
        Due.due("years(0, 3)", x.years(0, 3), 0);
        Due.due("steps", x.about(7), 1);
        Due.due("x", x.about(4), (9958 * 269 + 163) % 30259);
        Due.due("moment", x.about(2), 1);
        Due.due("log", x.log(-1, 0), 2);
        Due.due("who", x.log(1, 1), 8);
        Due.due("there", x.about(8), 2);
        Due.due("undo", x.undo(), 0);
        Due.due("x", x.about(4), 61);
        Due.due("moment", x.about(2), 0);
        Due.due("there", x.about(8), 3);
        Due.due("years(7, 1)", x.years(7, 1), 0);
        Due.due("x", x.about(4), (82 * 269 + 163) % 30259);
        x.undo();
        int ended = x.years(9999, 40);
        Due.due("night", x.about(1), ended);
        Due.due("book", x.book(-1, 0), ended);
        Due.due("one step", x.about(7), 1);
        Due.due("undo", x.undo(), 0);
        Due.due("night", x.about(1), 0);
        Due.due("book", x.book(-1, 0), 0);
    }

    private static void undoing() {
        LastWordAt x = new LastWordAt();
        x.guest(5, 5, -1);
        x.say(0, 2);
        x.ask();
        x.pass(2);
        x.send(0);
        x.dinner();
        Due.due("steps", x.about(7), 6);
        Due.due("undo dinner", x.undo(), 5);
        Due.due("night", x.about(1), 0);
        Due.due("moment", x.about(2), 2);
        Due.due("wine", x.about(3), 1);
        Due.due("log", x.log(-1, 0), 2);
        Due.due("book", x.book(-1, 0), 0);
        Due.due("gone", x.of(0, 3), 0);
        Due.due("undo sent", x.undo(), 4);
        Due.due("there", x.of(0, 3), 1);
        Due.due("undo passed", x.undo(), 3);
        Due.due("moment", x.about(2), 1);
        Due.due("undo passed", x.undo(), 2);
        Due.due("undo asked", x.undo(), 1);
        Due.due("log", x.log(-1, 0), 1);
        Due.due("undo said", x.undo(), 0);
        Due.due("words", x.of(0, 4), 0);
        Due.due("toasts", x.of(0, 5), 0);
        Due.due("last", x.of(0, 6), -1);
        Due.due("wine", x.about(3), 0);
        Due.due("undo nothing", x.undo(), -1);
        // What isn't of a STEP stays.
        Due.read(x, "lag 2;");
        x.pass(1);
        x.by(0);
        x.odds(0, 0, 99);
        x.undo();
        Due.due("the text", x.about(6), 0);
        Due.due("texts", x.about(5), 1);
        Due.due("lag", x.of(0, 7), 2);
    }

    private static void undoneGuests() {
        LastWordAt x = new LastWordAt();
        x.guest(5, 5, -1);
        x.pass(1);
        x.guest(6, 6, 1);
        x.say(1, 3);
        x.dinner();
        x.say(1, 2);
        x.say(1, 3);
        for (int left = 4; left > 0; left--) {
            x.undo();
        }
        Due.due("steps", x.about(7), 1);
        Due.due("guests", x.about(0), 2);
        Due.due("undo", x.undo(), 0);
        Due.due("guests told since", x.about(0), 2);
        Due.due("there", x.about(8), 3);
        Due.due("words", x.of(1, 4), 0);
        Due.due("its carriage", x.of(1, 2), 1);
    }

    private static void images() {
        LastWordAt x = new LastWordAt();
        x.guest(5, 5, -1);
        Due.read(x, "lag 7;");
        x.by(0);
        x.say(0, 0);
        x.dinner();
        x.odds(0, 0, 100);
        x.falls(1, 1);
        Due.due("image", x.image(), 1);
        Due.tape(x, "lag 1");
        x.guest(9, 9, -1);
        x.undo();
        x.undo();
        x.by(-1);
        x.odds(0, 0, 0);
        x.falls(1, 0);
        x.years(5, 30);
        Due.due("text", Due.read(x, "lag 3;"), 1);
        Due.due("a fault", Due.read(x, "lag"), -1);
        Due.tape(x, "dies 5;");
        Due.due("back", x.back(), 1);
        Due.due("guests", x.about(0), 1);
        Due.due("texts", x.about(5), 1);
        Due.due("the text", x.about(6), 0);
        Due.due("steps", x.about(7), 2);
        Due.due("x", x.about(4), 61);
        Due.due("the tape stays", x.about(9), 7);
        Due.due("the fault stays", x.fault(0), 1);
        Due.due("its place stays", x.fault(1), 3);
        Due.due("the odds", x.when(0, 1, 0, 1), 1);
        Due.due("the odds", x.when(0, 1, 0, 2), 1);
        Due.due("book", x.book(-1, 0), 1);
        Due.due("lag", x.of(0, 7), 7);
        Due.due("undo", x.undo(), 1);
        Due.due("log", x.log(0, 3), 7);
        Due.due("undo", x.undo(), 0);
        Due.due("undo", x.undo(), -1);
        Due.due("the image stays", x.back(), 1);
        Due.due("steps again", x.about(7), 2);
        Due.due("a text anew", x.text(), 1);
        x.by(1);
        x.dinner();
        Due.due("it rules", x.book(1, 2), 5);
        x.back();
        Due.due("the first text is as it was", x.of(0, 7), 7);
    }
}
