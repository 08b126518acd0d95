/** Promises 1 to 7: a new object, GUESTS, the tape, TEXTS, and which of them rules. */
final class EdgesOfTelling {
    private EdgesOfTelling() {
    }

    // ---- 1: a new object ----

    @Says(promise = 1, words = "No GUESTS")
    static void aNewObjectHasNoGuests() {
        LastWordAt x = new LastWordAt();
        Due.due("about(0)", x.about(0), 0);
        Due.due("about(8)", x.about(8), 0);
        Due.due("of(0, 0)", x.of(0, 0), -2);
        Due.due("say(0, 0)", x.say(0, 0), -2);
        Due.due("send(0)", x.send(0), false);
        Due.due("byRank(0)", x.byRank(0), -1);
    }

    @Says(promise = 1, words = "THE IMAGE is this.")
    static void itsImageIsTheNewObject() {
        LastWordAt x = Edge.table(2);
        Edge.rule(x, "lag 4; dies 30;");
        x.odds(0, 0, 90);
        x.odds(1, 5, 90);
        x.falls(2, 3);
        x.say(0, 2);
        x.say(1, 3);
        x.pass(2);
        x.dinner();
        x.years(5, 9);
        Due.due("back", x.back(), 0);
        LastWordAt anew = new LastWordAt();
        Due.same("all is new", Edge.imaged(x), Edge.imaged(anew));
        Due.due("no step is kept", x.undo(), -1);
        x.guest(3, 1, 7);
        anew.guest(3, 1, 7);
        Due.same("all is new for a GUEST, too", Edge.imaged(x), Edge.imaged(anew));
    }

    @Says(promise = 1, words = "NIGHT 0 .. 999, MOMENT 0 .. 99, WINE 0 .. 99 (at first 0 each).")
    static void theCountsAreNoughtAtFirst() {
        LastWordAt x = new LastWordAt();
        Due.due("NIGHT", x.about(1), 0);
        Due.due("MOMENT", x.about(2), 0);
        Due.due("WINE", x.about(3), 0);
        Due.due("THE LOG", x.log(-1, 0), 0);
        Due.due("written down", x.book(-1, 0), 0);
        Due.due("STEPS", x.about(7), 0);
    }

    @Says(promise = 1, words = "X: at first 61.")
    static void xAtFirst() {
        Due.due("about(4)", new LastWordAt().about(4), 61);
    }

    @Says(promise = 1, words = "THE TEXT (told; at first none) rules.")
    static void noTextRulesAtFirst() {
        LastWordAt x = Edge.table(1);
        Due.due("about(6)", x.about(6), -1);
        Due.read(x, "lag 9;");
        Due.due("about(6) with one TEXT", x.about(6), -1);
        Due.due("a word", x.of(0, 7), 0);
    }

    @Says(promise = 1, words = "The constants: `NONE = -1`: None.")
    static void theConstant() {
        Due.due("NONE", LastWordAt.NONE, -1);
    }

    // ---- 2: guest ----

    @Says(promise = 2, words = "A GUEST: its number.")
    static void theNumbersOfGuests() {
        LastWordAt x = new LastWordAt();
        for (int g = 0; g < 8; g++) {
            Due.due("guest " + g, x.guest(1, 1, 1), g);
            Due.due("how many", x.about(0), g + 1);
        }
    }

    @Says(promise = 2, words = "GUESTS 0 .. 7 (told one by one): RANK 0 .. 9")
    static void ranks() {
        LastWordAt x = new LastWordAt();
        Due.due("RANK 0", x.guest(0, 5, 5), 0);
        Due.due("RANK 9", x.guest(9, 5, 5), 1);
        Due.due("its RANK", x.of(0, 0), 0);
        Due.due("its RANK", x.of(1, 0), 9);
        Edge.untouched("wrong RANKS", x, () -> {
            Due.due("RANK -1", x.guest(-1, 5, 5), -1);
            Due.due("RANK 10", x.guest(10, 5, 5), -1);
            Due.due("the least RANK", x.guest(Edge.MIN, 5, 5), -1);
            Due.due("the greatest RANK", x.guest(Edge.MAX, 5, 5), -1);
        });
    }

    @Says(promise = 2, words = "HEARS 0 .. 9")
    static void hearing() {
        LastWordAt x = new LastWordAt();
        Due.due("HEARS 0", x.guest(5, 0, 5), 0);
        Due.due("HEARS 9", x.guest(5, 9, 5), 1);
        Due.due("it HEARS", x.of(0, 1), 0);
        Due.due("it HEARS", x.of(1, 1), 9);
        Edge.untouched("wrong HEARS", x, () -> {
            Due.due("HEARS -1", x.guest(5, -1, 5), -1);
            Due.due("HEARS 10", x.guest(5, 10, 5), -1);
            Due.due("the least HEARS", x.guest(5, Edge.MIN, 5), -1);
            Due.due("the greatest HEARS", x.guest(5, Edge.MAX, 5), -1);
        });
    }

    @Says(promise = 2, words = "GOES (its carriage; a MOMENT 0 .. 99, or NONE)")
    static void carriages() {
        LastWordAt x = new LastWordAt();
        Due.due("GOES NONE", x.guest(5, 5, -1), 0);
        Due.due("GOES 0", x.guest(5, 5, 0), 1);
        Due.due("GOES 99", x.guest(5, 5, 99), 2);
        Due.due("it GOES", x.of(0, 2), -1);
        Due.due("it GOES", x.of(1, 2), 0);
        Due.due("it GOES", x.of(2, 2), 99);
        Edge.untouched("wrong GOES", x, () -> {
            Due.due("GOES -2", x.guest(5, 5, -2), -1);
            Due.due("GOES 100", x.guest(5, 5, 100), -1);
            Due.due("the least GOES", x.guest(5, 5, Edge.MIN), -1);
            Due.due("the greatest GOES", x.guest(5, 5, Edge.MAX), -1);
        });
    }

    @Says(promise = 2, words = "NONE for others, or if there are 8.")
    static void aNinthGuest() {
        LastWordAt x = Edge.table(7);
        Due.due("the eighth", x.guest(9, 9, 9), 7);
        Edge.untouched("the ninth", x, () -> {
            Due.due("the ninth", x.guest(1, 2, 3), -1);
            Due.due("the ninth again", x.guest(9, 9, 9), -1);
        });
        Due.due("the eighth is as it was", x.of(7, 0), 9);
        Due.due("there is no ninth", x.of(8, 0), -2);
    }

    @Says(promise = 2, words = "Tonight each GUEST is THERE (at first) or gone")
    static void aGuestToldLateIsThere() {
        LastWordAt x = new LastWordAt();
        x.pass(5);
        Due.due("told behind its carriage", x.guest(5, 5, 4), 0);
        Due.due("it is THERE", x.of(0, 3), 1);
        x.pass(1);
        Due.due("it stays", x.of(0, 3), 1);
        Due.due("told in the MOMENT of its carriage", x.guest(5, 5, 6), 1);
        Due.due("it is THERE", x.of(1, 3), 1);
        x.pass(1);
        Due.due("its carriage came", x.of(1, 3), 0);
    }

    @Says(promise = 2, words = "has so many WORDS (0 .. 99; at first 0), TOASTS (0 .. 99; at first 0), spoke LAST in a MOMENT (NONE at first)")
    static void aGuestToldLateSaidNothing() {
        LastWordAt x = Edge.table(1);
        x.say(0, 2);
        x.pass(1);
        x.guest(5, 5, -1);
        Due.due("WORDS", x.of(1, 4), 0);
        Due.due("TOASTS", x.of(1, 5), 0);
        Due.due("LAST", x.of(1, 6), -1);
    }

    // ---- 3: feed ----

    @Says(promise = 3, words = "Twenty bytes come behind the tape, the highest of a first: how many it has.")
    static void theOrderOfBytes() {
        LastWordAt x = Edge.table(1);
        // "oh 0;ask;say 0;  toast 0;bye 0;" with blanks, in two times twenty bytes.
        Due.due("twenty", x.feed(0x6f682030, 0x3b61736b, 0x3b736179, 0x20303b20, 0x20746f61), 20);
        Due.due("forty", x.feed(0x73742030, 0x3b627965, 0x20303b0a, 0x0a202020, 0x20202020), 40);
        Due.due("about(9)", x.about(9), 40);
        Due.due("text", x.text(), 0);
        Due.due("played", x.played(0), -1);
        int[] kinds = {1, 4, 0, 2, 3};
        for (int i = 0; i < 5; i++) {
            Due.due("KIND of " + i, x.log(i, 2), kinds[i]);
        }
    }

    @Says(promise = 3, words = "Twenty bytes come")
    static void bytesAreNeverNegative() {
        // A sign of 255 in front, in the middle and at the end of a number: none is a TOKEN, at its own place.
        int[][] fives = {{-1, 0, 0, 0, 0}, {0x2020ff20, 0, 0, 0, 0}, {0x20202020, 0x20202020, 0x20202020, 0x20202020, 0x2020_20ff}};
        int[] places = {0, 2, 19};
        for (int i = 0; i < 3; i++) {
            LastWordAt x = new LastWordAt();
            int[] a = fives[i];
            Due.due("feed", x.feed(a[0], a[1], a[2], a[3], a[4]), 20);
            Due.due("text", x.text(), -1);
            Due.due("its FAULT", x.fault(0), 1);
            Due.due("its place", x.fault(1), places[i]);
        }
    }

    @Says(promise = 3, words = "NONE, and none come, if there would be more than 300.")
    static void theTapeIsFull() {
        LastWordAt x = new LastWordAt();
        for (int i = 1; i <= 15; i++) {
            Due.due("feed " + i, x.feed(0x20202020, 0x20202020, 0x20202020, 0x20202020, 0x20202020), 20 * i);
        }
        Due.due("the sixteenth", x.feed(0, 0, 0, 0, 0), -1);
        Due.due("about(9)", x.about(9), 300);
        x.end(281);
        Due.due("one too many", x.feed(0, 0, 0, 0, 0), -1);
        Due.due("about(9)", x.about(9), 281);
        x.end(280);
        Due.due("just 300", x.feed(0x20202020, 0x20202020, 0x20202020, 0x20202020, 0x2020203b), 300);
        Due.due("none of the refused ones came", x.text(), -1);
        Due.due("the last byte is the FAULT", x.fault(1), 299);
    }

    // ---- 4: end ----

    @Says(promise = 4, words = "The tape has its first n bytes alone: n.")
    static void theTapeIsCut() {
        LastWordAt x = new LastWordAt();
        Due.due("end(0) of an empty one", x.end(0), 0);
        x.feed(0x61736b3b, 0x61736b3b, 0x61736b3b, 0x61736b3b, 0x61736b3b);
        Due.due("end(20): all", x.end(20), 20);
        Due.due("end(8)", x.end(8), 8);
        Due.due("about(9)", x.about(9), 8);
        Due.due("bytes come behind the eighth", x.feed(0x64696e6e, 0x65723b20, 0x20202020, 0x20202020, 0x20202020), 28);
        Due.due("text", x.text(), 0);
        Due.due("two asked, and a dinner", x.played(0), -1);
        Due.due("NIGHT", x.about(1), 1);
        x.undo();
        Due.due("two asked", x.log(-1, 0), 2);
    }

    @Says(promise = 4, words = "The tape has its first n bytes alone")
    static void whatWasCutIsNotRead() {
        String[] texts = {"asks;", "say 12;", "ask;?", "lag 1+1;", "pass 600;", "counts 1<=2;"};
        int[] ends = {3, 5, 4, 5, 7, 9};
        int[] faults = {1, 1, 0, 1, 1, 1};
        int[] places = {3, 5, -1, 5, 7, 9};
        for (int i = 0; i < texts.length; i++) {
            LastWordAt x = new LastWordAt();
            Due.tape(x, texts[i]);
            Due.due("end", x.end(ends[i]), ends[i]);
            Due.due("text", x.text(), faults[i] == 0 ? 0 : -1);
            Due.due("FAULT of " + texts[i] + " cut", x.fault(0), faults[i]);
            Due.due("its place", x.fault(1), places[i]);
        }
    }

    @Says(promise = 4, words = "NONE, and nothing is done, if it has not so many, or n is below 0.")
    static void theTapeHasNotSoMany() {
        LastWordAt x = new LastWordAt();
        Due.due("end(1) of an empty one", x.end(1), -1);
        x.feed(0x61736b3b, 0x61736b3b, 0x61736b3b, 0x61736b3b, 0x61736b3b);
        x.end(12);
        Edge.untouched("wrong ends", x, () -> {
            Due.due("end(13): it had them once", x.end(13), -1);
            Due.due("end(20)", x.end(20), -1);
            Due.due("end(-1)", x.end(-1), -1);
            Due.due("the least end", x.end(Edge.MIN), -1);
            Due.due("the greatest end", x.end(Edge.MAX), -1);
        });
        Due.due("end(12)", x.end(12), 12);
    }

    // ---- 5: text ----

    @Says(promise = 5, words = "The tape (empty then) is a TEXT: its number.")
    static void theTapeIsEmptyThen() {
        LastWordAt x = new LastWordAt();
        Due.due("text", Due.read(x, "ask;"), 0);
        Due.due("about(9)", x.about(9), 0);
        Due.due("about(5)", x.about(5), 1);
        Due.due("end(1)", x.end(1), -1);
        Due.due("the empty tape is a TEXT", x.text(), 1);
        Due.due("the third", x.text(), 2);
        Due.due("the fourth", x.text(), 3);
        Due.due("about(5)", x.about(5), 4);
        Due.due("an empty one is PLAYED", x.played(1), -1);
        Due.due("by nothing", x.log(-1, 0), 0);
        Due.due("the first is as it was", x.played(0), -1);
        Due.due("it asks", x.log(-1, 0), 1);
    }

    @Says(promise = 5, words = "NONE: it has a FAULT")
    static void aFaultyTapeIsNoText() {
        LastWordAt x = new LastWordAt();
        Due.read(x, "ask;");
        Due.due("text", Due.read(x, "ask;ask"), -1);
        Due.due("about(5)", x.about(5), 1);
        Due.due("the tape is empty", x.about(9), 0);
        Due.due("played(1)", x.played(1), -2);
        Due.due("by(1)", x.by(1), false);
        Due.due("the next gets its number", Due.read(x, "ask;ask;ask;"), 1);
        Due.due("played(1)", x.played(1), -1);
        Due.due("asked", x.log(-1, 0), 3);
    }

    @Says(promise = 5, words = "NONE: it has a FAULT")
    static void behindManyFaultyOnes() {
        LastWordAt x = Edge.table(1);
        for (int i = 0; i < 5; i++) {
            Due.due("text", Due.read(x, "dies 1" + "+1".repeat(100) + ";lag 1" + "-1".repeat(40) + "?"), -1);
        }
        Due.due("a sound one", Due.read(x, "lag 5" + "+1".repeat(60) + ";"), 0);
        Due.due("a second one", Due.read(x, "counts 1<2" + " and 1<2".repeat(30) + ";"), 1);
        x.by(0);
        Due.due("it rules", x.of(0, 7), 65);
        x.by(1);
        Due.due("it rules", x.of(0, 7), 0);
    }

    @Says(promise = 5, words = "or (the tape stays) there are 4.")
    static void aFifthText() {
        LastWordAt x = new LastWordAt();
        for (int i = 0; i < 4; i++) {
            Due.due("text", x.text(), i);
        }
        Due.tape(x, "ask;");
        Edge.untouched("a fifth", x, () -> Due.due("a fifth", x.text(), -1));
        Due.tape(x, "ask");
        Edge.untouched("a faulty fifth", x, () -> Due.due("a faulty fifth", x.text(), -1));
        Due.tape(x, "");
        Edge.untouched("an empty fifth", x, () -> Due.due("an empty fifth", x.text(), -1));
        Due.tape(x, "ask;");
        x.back();
        Due.due("TEXTS are gone", x.about(5), 0);
        Due.due("the tape that stayed", x.text(), 0);
        Due.due("played", x.played(0), -1);
    }

    @Says(promise = 5, words = "of up to 300 bytes")
    static void aTextOfThreeHundredBytes() {
        LastWordAt x = new LastWordAt();
        Due.due("text", Due.read(x, "ask;" + " ".repeat(292) + "ask;"), 0);
        Due.due("played", x.played(0), -1);
        Due.due("the last bytes count", x.log(-1, 0), 2);
        Due.faulty(" ".repeat(297) + "ask", 1, 300);
        Due.faulty(" ".repeat(298) + ";;", 1, 298);
        Due.faulty("ask;" + "\n".repeat(295) + "?", 1, 299);
        Due.faulty(";".repeat(300), 1, 0);
        Due.faulty("a".repeat(300), 1, 0);
        Due.faulty("lag " + "9".repeat(296), 2, 4);
        Due.faulty("lag " + "0".repeat(296), 1, 300);
        Due.sound("lag " + "0".repeat(295) + ";");
        Due.sound("lag 1" + "+1".repeat(147) + ";");
    }

    // ---- 6: fault ----

    @Says(promise = 6, words = "NONE for others, and ahead of any.")
    static void aheadOfAnyText() {
        LastWordAt x = new LastWordAt();
        Due.due("fault(0)", x.fault(0), -1);
        Due.due("fault(1)", x.fault(1), -1);
        Due.tape(x, "?");
        Due.due("fault(0) of one not read yet", x.fault(0), -1);
        Due.due("fault(1) of one not read yet", x.fault(1), -1);
    }

    @Says(promise = 6, words = "Of the latest text that was read: 0 its FAULT (0 without), 1 its place (NONE without).")
    static void theLatestTextThatWasRead() {
        LastWordAt x = new LastWordAt();
        Due.read(x, "ask;?");
        Due.due("fault(0)", x.fault(0), 1);
        Due.due("fault(1)", x.fault(1), 4);
        Due.read(x, "say 8;");
        Due.due("fault(0)", x.fault(0), 2);
        Due.due("fault(1)", x.fault(1), 4);
        Due.read(x, "?");
        Due.due("a place of 0", x.fault(1), 0);
        Due.read(x, "ask;");
        Due.due("fault(0) without", x.fault(0), 0);
        Due.due("fault(1) without", x.fault(1), -1);
        Due.tape(x, "?");
        Due.due("fault(0) of the one that was read", x.fault(0), 0);
    }

    @Says(promise = 6, words = "NONE for others")
    static void noOtherFaults() {
        LastWordAt x = new LastWordAt();
        Due.read(x, "?");
        int[] others = {-1, 2, Edge.MIN, Edge.MAX};
        for (int what : others) {
            Due.due("fault(" + what + ")", x.fault(what), -1);
        }
        Due.read(x, "ask;");
        for (int what : others) {
            Due.due("fault(" + what + ") without one", x.fault(what), -1);
        }
    }

    // ---- 7: by ----

    @Says(promise = 7, words = "THE TEXT (NONE: none): true.")
    static void eachTextCanRule() {
        LastWordAt x = Edge.table(1);
        Due.due("by(NONE) without TEXTS", x.by(-1), true);
        for (int i = 0; i < 4; i++) {
            Due.read(x, "lag " + (10 + i) + ";");
        }
        for (int i = 3; i >= 0; i--) {
            Due.due("by(" + i + ")", x.by(i), true);
            Due.due("about(6)", x.about(6), i);
            Due.due("it rules", x.of(0, 7), 10 + i);
        }
        Due.due("by(NONE)", x.by(-1), true);
        Due.due("about(6)", x.about(6), -1);
        Due.due("none rules", x.of(0, 7), 0);
        Due.due("it is no STEP", x.about(7), 0);
    }

    @Says(promise = 7, words = "False for others.")
    static void noOtherCanRule() {
        LastWordAt x = Edge.table(1);
        Due.due("by(0) without TEXTS", x.by(0), false);
        Edge.rule(x, "lag 7;");
        Edge.untouched("others", x, () -> {
            Due.due("by(1)", x.by(1), false);
            Due.due("by(4)", x.by(4), false);
            Due.due("by(-2)", x.by(-2), false);
            Due.due("the least", x.by(Edge.MIN), false);
            Due.due("the greatest", x.by(Edge.MAX), false);
        });
        Due.due("it rules on", x.of(0, 7), 7);
    }
}
