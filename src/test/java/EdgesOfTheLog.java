/** Promises 26 to 31 and 33 to 38: what THE LOG tells, who stays, and whose toast is next. */
final class EdgesOfTheLog {
    private static final int[] FAR = {-1, 1000, -2, Edge.MIN, Edge.MAX};

    private EdgesOfTheLog() {
    }

    // ---- 26: whispered ----

    @Says(promise = 26, words = "WHISPERED (bits).")
    static void whisperedByEach() {
        LastWordAt x = Edge.table(8);
        Due.due("nothing said, GUEST 7 alone", x.whispered(0, 128), 128);
        Due.due("nothing said, GUEST 0 alone", x.whispered(999, 1), 1);
        Due.due("nothing said, none", x.whispered(0, 0), 0);
        x.pass(5);
        x.say(7, 0);
        Due.due("a MOMENT too early: each of them", x.whispered(4, 128), 255);
        Due.due("in the same MOMENT", x.whispered(5, 129), 1);
        Due.due("itself in the same MOMENT", x.whispered(5, 128), 128);
        Due.due("a MOMENT later", x.whispered(6, 128), 128);
        Due.due("a MOMENT later, another one", x.whispered(6, 1), 1);
        Due.due("two of them by none", x.whispered(6, 129), 0);
    }

    @Says(promise = 26, words = "WHISPERED: GUESTS (bits) by each of whom, if it were in THE LOG, too, to FALL in a told MOMENT, just a told set would HOLD.")
    static void whisperedAgainstHim() {
        LastWordAt x = Edge.table(2);
        x.say(0, 0);
        x.pass(3);
        x.ask();
        Due.due("ahead of him: none", x.whispered(2, 0), 3);
        Due.due("ahead of him: it", x.whispered(2, 1), 0);
        Due.due("with him", x.whispered(3, 1), 1);
        Due.due("with him: none", x.whispered(3, 0), 0);
        Due.due("behind him", x.whispered(4, 2), 2);
        x.send(1);
        Due.due("one that is gone", x.whispered(4, 2), 2);
        for (int i = 2; i < 40; i++) {
            x.ask();
        }
        Due.due("THE LOG is full", x.whispered(4, 1), 1);
        Due.due("nothing is said", x.log(-1, 0), 40);
    }

    @Says(promise = 26, words = "NONE for others (MOMENTS 0 .. 999; a set with a GUEST not told).")
    static void whispersThatCannotBe() {
        LastWordAt x = Edge.table(2);
        for (int far : FAR) {
            Due.due("MOMENT " + far, x.whispered(far, 1), -1);
        }
        Due.due("MOMENT 0", x.whispered(0, 1), 1);
        Due.due("MOMENT 999", x.whispered(999, 1), 1);
        Due.due("all who are told", x.whispered(0, 3), 0);
        for (int set : new int[] {4, 5, 255, 256, -1, Edge.MIN, Edge.MIN + 1, Edge.MAX}) {
            Due.due("set " + set, x.whispered(0, set), -1);
        }
        LastWordAt nobody = new LastWordAt();
        Due.due("without GUESTS", nobody.whispered(0, 0), 0);
        Due.due("without GUESTS, a set", nobody.whispered(0, 1), -1);
    }

    // ---- 27: twoWhispered ----

    @Says(promise = 27, words = "TWO WHISPERED (MOMENTS first, second; set): how many (i NONE), the i-th.")
    static void twosFromTheFirstToTheLast() {
        LastWordAt x = Edge.table(8);
        x.pass(5);
        x.say(0, 0);
        Due.due("both too early: each two", x.twoWhispered(4, 3, 1, -1), 28);
        Due.due("the first", x.twoWhispered(4, 3, 1, 0), 1);
        Due.due("the eighth", x.twoWhispered(4, 3, 1, 7), 8 + 2);
        Due.due("the last", x.twoWhispered(4, 3, 1, 27), 8 * 6 + 7);
        Due.due("beyond the last", x.twoWhispered(4, 3, 1, 28), -1);
        Due.due("both later, in one MOMENT", x.twoWhispered(6, 6, 192, -1), 1);
        Due.due("both later, in one MOMENT", x.twoWhispered(6, 6, 192, 0), 8 * 6 + 7);
        Due.due("with it", x.twoWhispered(5, 5, 193, 0), 8 * 6 + 7);
        Due.due("it and another one in its MOMENT", x.twoWhispered(5, 5, 129, 0), 7);
    }

    @Says(promise = 27, words = "twos of unlike GUESTS (the first lower)")
    static void twosOfOne() {
        LastWordAt x = Edge.table(1);
        Due.due("one GUEST makes no two", x.twoWhispered(0, 0, 1, -1), 0);
        Due.due("one GUEST makes no two", x.twoWhispered(0, 0, 1, 0), -1);
        Due.due("none at all", new LastWordAt().twoWhispered(0, 0, 0, -1), 0);
        x.guest(5, 5, -1);
        Due.due("two do", x.twoWhispered(0, 0, 3, -1), 1);
        Due.due("two do", x.twoWhispered(0, 0, 3, 0), 1);
        Due.due("not one alone", x.twoWhispered(0, 0, 1, -1), 0);
    }

    @Says(promise = 27, words = "one in each of two told MOMENTS (the first of the two in the first one, or the other way round), just a told set would HOLD: how many, the i-th (8 times the first and the second); each two counts once.")
    static void theOtherWayRound() {
        LastWordAt x = Edge.table(3);
        Due.due("the second MOMENT is later", x.twoWhispered(1, 2, 1, -1), 2);
        Due.due("the first MOMENT is later", x.twoWhispered(2, 1, 1, -1), 2);
        Due.due("GUEST 2", x.twoWhispered(1, 2, 4, 0), 2);
        Due.due("GUEST 2", x.twoWhispered(2, 1, 4, 0), 2);
        Due.due("GUEST 2, with 1", x.twoWhispered(1, 2, 4, 1), 8 + 2);
        Due.due("both ways hold, once", x.twoWhispered(7, 7, 5, -1), 1);
        x.pass(9);
        x.say(1, 0);
        Due.due("neither way matters, once", x.twoWhispered(1, 2, 2, -1), 3);
    }

    @Says(promise = 27, words = "NONE if there is none such, and for others.")
    static void twosThatCannotBe() {
        LastWordAt x = Edge.table(2);
        Due.due("how many", x.twoWhispered(0, 0, 3, -1), 1);
        for (int i : new int[] {1, -2, Edge.MIN, Edge.MAX}) {
            Due.due("i " + i, x.twoWhispered(0, 0, 3, i), -1);
        }
        for (int far : FAR) {
            Due.due("first " + far, x.twoWhispered(far, 0, 3, -1), -1);
            Due.due("second " + far, x.twoWhispered(0, far, 3, -1), -1);
            Due.due("first " + far + ", i 0", x.twoWhispered(far, 0, 3, 0), -1);
        }
        Due.due("MOMENTS 999", x.twoWhispered(999, 999, 3, -1), 1);
        for (int set : new int[] {4, 7, 255, 256, -1, Edge.MIN, Edge.MAX}) {
            Due.due("set " + set, x.twoWhispered(0, 0, set, -1), -1);
        }
        Due.due("by none", x.twoWhispered(0, 0, 0, -1), 0);
    }

    // ---- 28: ifAsked ----

    @Says(promise = 28, words = "IF HE ASKED (bits).")
    static void ifHeAskedBefore() {
        LastWordAt x = Edge.table(8);
        Due.due("nothing was said", x.ifAsked(0), 0);
        x.pass(5);
        x.say(7, 0);
        x.say(0, 0);
        Due.due("ahead", x.ifAsked(4), 129);
        Due.due("in the same MOMENT", x.ifAsked(5), 129);
        Due.due("later", x.ifAsked(6), 0);
        Due.due("he didn't", x.log(-1, 0), 2);
    }

    @Says(promise = 28, words = "NONE for others (MOMENTS 0 .. 999).")
    static void whenHeCannotAsk() {
        LastWordAt x = Edge.table(1);
        for (int far : FAR) {
            Due.due("ifAsked(" + far + ")", x.ifAsked(far), -1);
        }
        Due.due("ifAsked(0)", x.ifAsked(0), 0);
        Due.due("ifAsked(999)", x.ifAsked(999), 0);
    }

    @Says(promise = 28, words = "IF HE ASKED, to FALL in a told MOMENT: who would HOLD.")
    static void beyondAllMoments() {
        LastWordAt x = Edge.table(1);
        Edge.rule(x, "lag 99;");
        x.pass(60);
        x.pass(39);
        x.say(0, 0);
        Due.due("198", x.ifAsked(198), 1);
        Due.due("199", x.ifAsked(199), 0);
        for (int i = 1; i < 40; i++) {
            x.ask();
        }
        Due.due("THE LOG is full", x.ifAsked(999), 0);
    }

    // ---- 29: silence ----

    @Says(promise = 29, words = "SILENCE.")
    static void silenceAtFirst() {
        LastWordAt x = new LastWordAt();
        Due.due("at first", x.silence(), 1);
        x.pass(60);
        x.pass(39);
        Due.due("at last", x.silence(), 100);
    }

    @Says(promise = 29, words = "SILENCE: MOMENT less the greatest MOMENT, ahead of it, in which one of THE LOG FALLS (the old man's, too); without such a one MOMENT and 1.")
    static void silenceBehindWords() {
        LastWordAt x = new LastWordAt();
        x.guest(5, 5, -1);
        x.guest(5, 0, -1);
        x.pass(4);
        x.say(0, 0);
        Due.due("in MOMENT isn't ahead", x.silence(), 5);
        x.say(1, 0);
        x.pass(1);
        Due.due("one", x.silence(), 1);
        x.pass(2);
        Due.due("in 7 it isn't ahead", x.silence(), 3);
        x.pass(1);
        Due.due("in 8 it is", x.silence(), 1);
        x.pass(2);
        x.ask();
        x.pass(1);
        Due.due("the old man's", x.silence(), 1);
        Edge.rule(x, "counts 1>2;");
        x.say(0, 0);
        x.pass(1);
        Due.due("it doesn't count", x.silence(), 2);
        LastWordAt never = Edge.table(1);
        Edge.rule(never, "counts 1>2;");
        never.say(0, 0);
        never.pass(2);
        Due.due("nothing FALLS", never.silence(), 3);
    }

    // ---- 30: byRank ----

    @Says(promise = 30, words = "NONE: there is none such.")
    static void noneOfThatRank() {
        LastWordAt x = new LastWordAt();
        Due.due("without GUESTS", x.byRank(0), -1);
        x.guest(3, 5, -1);
        x.guest(4, 5, -1);
        for (int i : new int[] {2, 8, -1, Edge.MIN, Edge.MAX}) {
            Due.due("byRank(" + i + ")", x.byRank(i), -1);
        }
        Due.due("byRank(1)", x.byRank(1), 0);
        x.send(1);
        Due.due("byRank(0)", x.byRank(0), 0);
        Due.due("byRank(1)", x.byRank(1), -1);
        x.send(0);
        Due.due("none is THERE", x.byRank(0), -1);
    }

    @Says(promise = 30, words = "BY RANK: those THERE, the greatest RANK first, of like ones the lowest: the i-th.")
    static void theLowestOfLikeRanks() {
        LastWordAt x = new LastWordAt();
        for (int rank : new int[] {0, 9, 4, 9, 0, 4, 4, 9}) {
            x.guest(rank, 5, -1);
        }
        int[] want = {1, 3, 7, 2, 5, 6, 0, 4};
        for (int i = 0; i < 8; i++) {
            Due.due("byRank(" + i + ")", x.byRank(i), want[i]);
        }
        x.send(3);
        x.send(2);
        int[] left = {1, 7, 5, 6, 0, 4, -1, -1};
        for (int i = 0; i < 8; i++) {
            Due.due("byRank(" + i + ") of those THERE", x.byRank(i), left[i]);
        }
    }

    @Says(promise = 30, words = "BY RANK.")
    static void eightOfOneRank() {
        LastWordAt x = new LastWordAt();
        for (int g = 0; g < 8; g++) {
            x.guest(5, 5, -1);
        }
        for (int g = 0; g < 8; g++) {
            Due.due("byRank(" + g + ")", x.byRank(g), g);
        }
        Due.due("byRank(8)", x.byRank(8), -1);
    }

    // ---- 31: told ----

    @Says(promise = 31, words = "TOLD: how many of a KIND (0 .. 3).")
    static void toldFromNoneToForty() {
        LastWordAt x = Edge.table(2);
        for (int kind = 0; kind < 4; kind++) {
            Due.due("nothing was said", x.told(0, kind), 0);
        }
        x.say(1, 3);
        for (int i = 0; i < 39; i++) {
            x.say(0, i == 0 ? 2 : 1);
        }
        int[] want = {0, 38, 1, 0};
        for (int kind = 0; kind < 4; kind++) {
            Due.due("told(0, " + kind + ")", x.told(0, kind), want[kind]);
        }
        Due.due("one that is gone", x.told(1, 3), 1);
        x.dinner();
        Due.due("of tonight", x.told(0, 1), 0);
    }

    @Says(promise = 31, words = "NONE for others.")
    static void toldOfOthers() {
        LastWordAt x = Edge.table(2);
        x.ask();
        for (int kind : new int[] {4, -1, 5, Edge.MIN, Edge.MAX}) {
            Due.due("told(0, " + kind + ")", x.told(0, kind), -1);
        }
        for (int guest : new int[] {2, 8, -1, Edge.MIN, Edge.MAX}) {
            Due.due("told(" + guest + ", 0)", x.told(guest, 0), -1);
            Due.due("told(" + guest + ", 4)", x.told(guest, 4), -1);
        }
    }

    @Says(promise = 31, words = "TOLD: of a GUEST how many in THE LOG of each KIND.")
    static void toldThoughItDoesNotCount() {
        LastWordAt x = Edge.table(2);
        Edge.rule(x, "counts 1>2;");
        x.say(0, 0);
        x.say(1, 0);
        Due.due("told(0, 0)", x.told(0, 0), 1);
        Due.due("told(1, 0)", x.told(1, 0), 1);
    }

    // ---- 33: held ----

    @Says(promise = 33, words = "HELD.")
    static void heldFromNoneToAll() {
        LastWordAt x = Edge.table(8);
        Due.due("in MOMENT 0", x.held(7), 0);
        x.say(7, 0);
        Due.due("not from 0 to -1", x.held(7), 0);
        x.pass(1);
        Due.due("one", x.held(7), 1);
        x.pass(60);
        x.pass(38);
        Due.due("99", x.held(7), 99);
        x.dinner();
        Due.due("tonight", x.held(7), 0);
    }

    @Says(promise = 33, words = "NONE for others.")
    static void heldByOthers() {
        LastWordAt x = Edge.table(2);
        x.ask();
        x.pass(1);
        for (int guest : new int[] {2, 8, -1, Edge.MIN, Edge.MAX}) {
            Due.due("held(" + guest + ")", x.held(guest), -1);
        }
    }

    @Says(promise = 33, words = "HELD tonight by a GUEST: for how many of the MOMENTS from 0 to MOMENT less 1 it was one of those who HOLD by all that FALLS no later than in that one.")
    static void heldAgainstOthers() {
        LastWordAt x = new LastWordAt();
        x.guest(5, 5, -1);
        x.guest(5, 0, -1);
        x.pass(1);
        x.say(0, 0);
        x.say(1, 0);
        x.pass(2);
        Due.due("in 1 and 2", x.held(0), 2);
        x.pass(2);
        Due.due("the other FALLS in 4", x.held(0), 3);
        Due.due("it HELD in 4", x.held(1), 1);
        x.say(0, 0);
        x.pass(1);
        Due.due("in 5", x.held(0), 4);
        x.say(0, 0);
        x.ask();
        x.pass(1);
        Due.due("with him in 6", x.held(0), 5);
        x.ask();
        x.pass(3);
        Due.due("he FALLS alone in 7", x.held(0), 5);
        Edge.rule(x, "lag 99;");
        x.say(0, 0);
        x.pass(60);
        x.pass(29);
        Due.due("beyond all MOMENTS", x.held(0), 5);
    }

    // ---- 34: stays ----

    @Says(promise = 34, words = "STAYS (bits).")
    static void whoStays() {
        LastWordAt x = new LastWordAt();
        Due.due("without GUESTS", x.stays(0), 0);
        int[] goes = {-1, 0, 1, 98, 99};
        for (int one : goes) {
            x.guest(5, 5, one);
        }
        Due.due("stays(0)", x.stays(0), 31);
        Due.due("stays(1)", x.stays(1), 29);
        Due.due("stays(2)", x.stays(2), 25);
        Due.due("stays(98)", x.stays(98), 25);
        Due.due("stays(99)", x.stays(99), 17);
    }

    @Says(promise = 34, words = "NONE for others (MOMENTS up to 99).")
    static void momentsBeyondTheLast() {
        LastWordAt x = Edge.table(1);
        for (int moment : new int[] {100, -1, Edge.MIN, Edge.MAX}) {
            Due.due("stays(" + moment + ")", x.stays(moment), -1);
        }
        Due.due("stays(99)", x.stays(99), 1);
        x.pass(60);
        x.pass(39);
        Due.due("stays(99) in 99", x.stays(99), 1);
        Due.due("stays(98) in 99", x.stays(98), -1);
        Due.due("stays(100) in 99", x.stays(100), -1);
    }

    @Says(promise = 34, words = "STAYS: GUESTS THERE now who still are at a MOMENT (no earlier than MOMENT), if nobody else goes but by GOES.")
    static void carriagesThatAreGone() {
        LastWordAt x = new LastWordAt();
        x.guest(5, 5, 5);
        x.guest(5, 5, -1);
        x.pass(4);
        x.guest(5, 5, 3);
        x.guest(5, 5, 4);
        x.send(1);
        Due.due("earlier than MOMENT", x.stays(3), -1);
        Due.due("now", x.stays(4), 13);
        Due.due("a MOMENT on", x.stays(5), 5);
        Due.due("its carriage came already", x.stays(6), 4);
        Due.due("its carriage came already", x.stays(99), 4);
    }

    // ---- 35: round ----

    @Says(promise = 35, words = "A ROUND: who gives the i-th toast (0 at least).")
    static void theFirstAndTheTwentiethToast() {
        LastWordAt x = Edge.table(3);
        for (int i = 0; i < 20; i++) {
            Due.due("round(20, " + i + ")", x.round(20, i), 2 - i % 3);
        }
        Due.due("round(1, 0)", x.round(1, 0), 2);
    }

    @Says(promise = 35, words = "NONE for others, and if nobody is THERE.")
    static void roundsThatCannotBe() {
        LastWordAt x = new LastWordAt();
        Due.due("without GUESTS", x.round(1, 0), -1);
        x.guest(5, 5, -1);
        for (int n : new int[] {0, 21, -1, Edge.MIN, Edge.MAX}) {
            Due.due("round(" + n + ", 0)", x.round(n, 0), -1);
        }
        for (int i : new int[] {-1, 20, Edge.MIN, Edge.MAX}) {
            Due.due("round(20, " + i + ")", x.round(20, i), -1);
        }
        Due.due("round(1, 1)", x.round(1, 1), -1);
        Due.due("round(5, 5)", x.round(5, 5), -1);
        Due.due("round(5, 4)", x.round(5, 4), 0);
        Due.due("round(20, 19)", x.round(20, 19), 0);
        x.send(0);
        Due.due("nobody is THERE", x.round(1, 0), -1);
        Due.due("nobody is THERE", x.round(20, 19), -1);
    }

    @Says(promise = 35, words = "A ROUND of n toasts (1 to 20), each by the one that is next then (none goes): who gives the i-th.")
    static void aRoundThatEvensOut() {
        LastWordAt x = Edge.table(2);
        for (int i = 0; i < 19; i++) {
            x.say(1, 2);
        }
        x.guest(9, 5, 0);
        for (int i = 0; i < 19; i++) {
            Due.due("round(20, " + i + ")", x.round(20, i), i % 2 == 0 ? 2 : 0);
        }
        Due.due("none goes", x.about(8), 7);
        Due.due("nothing is done", x.about(3), 19);
        Due.due("nor by the next call", x.round(20, 0), 2);
    }

    // ---- 36: provoked ----

    @Says(promise = 36, words = "PROVOKED.")
    static void theLowestOther() {
        LastWordAt x = Edge.table(8);
        x.say(7, 0);
        Due.due("it HOLDS alone already: the lowest other one", x.provoked(7, 0), 0);
        x.say(6, 0);
        Due.due("the one with it", x.provoked(7, 0), 6);
        Due.due("the one with it", x.provoked(6, 0), 7);
        x.say(5, 0);
        Due.due("two are in its way", x.provoked(7, 0), -1);
        LastWordAt alone = Edge.table(1);
        alone.say(0, 0);
        Due.due("no other one", alone.provoked(0, 0), -1);
        LastWordAt first = Edge.table(2);
        first.say(0, 0);
        Due.due("another one, not itself", first.provoked(0, 0), 1);
    }

    @Says(promise = 36, words = "NONE: none, and for others (MOMENTS 0 .. 99).")
    static void provokingOthers() {
        LastWordAt x = Edge.table(2);
        x.say(0, 0);
        x.pass(60);
        x.pass(39);
        x.say(1, 0);
        Due.due("MOMENT 0", x.provoked(0, 0), 1);
        Due.due("MOMENT 99", x.provoked(0, 99), 1);
        for (int moment : new int[] {-1, 100, Edge.MIN, Edge.MAX}) {
            Due.due("MOMENT " + moment, x.provoked(0, moment), -1);
        }
        for (int guest : new int[] {2, 8, -1, Edge.MIN, Edge.MAX}) {
            Due.due("GUEST " + guest, x.provoked(guest, 0), -1);
        }
        Due.due("without GUESTS", new LastWordAt().provoked(0, 0), -1);
        Due.due("one that said nothing", Edge.table(2).provoked(0, 0), -1);
        LastWordAt never = Edge.table(2);
        Edge.rule(never, "counts rank=1;");
        never.say(0, 0);
        Due.due("one whose word doesn't count", never.provoked(0, 0), -1);
        never.say(1, 0);
        Due.due("one whose word doesn't count", never.provoked(0, 0), -1);
        never.dinner();
        Due.due("tonight nothing was said", never.provoked(1, 0), -1);
    }

    @Says(promise = 36, words = "PROVOKED: the lowest GUEST (another one), without whose part of THE LOG from a told MOMENT on (said then or later) just a told one would HOLD; none.")
    static void saidThenOrLater() {
        LastWordAt x = new LastWordAt();
        x.guest(5, 5, -1);
        x.guest(5, 0, -1);
        x.say(0, 0);
        x.pass(1);
        x.say(1, 0);
        x.pass(5);
        Due.due("said ahead of it", x.provoked(0, 2), -1);
        Due.due("FALLS later, but was said ahead of it", x.provoked(0, 4), -1);
        Due.due("said then", x.provoked(0, 1), 1);
        Due.due("said later", x.provoked(0, 0), 1);
        x.ask();
        Due.due("the old man is in its way", x.provoked(0, 0), -1);
        LastWordAt gone = Edge.table(3);
        gone.say(0, 0);
        gone.pass(1);
        gone.say(2, 3);
        Due.due("one that is gone", gone.provoked(0, 1), 2);
        LastWordAt part = Edge.table(3);
        part.say(0, 0);
        part.say(2, 0);
        part.pass(1);
        part.say(2, 0);
        Due.due("the rest of its part stays", part.provoked(0, 1), -1);
        Due.due("all of its part", part.provoked(0, 0), 2);
    }

    // ---- 37: unsaid ----

    @Says(promise = 37, words = "UNSAID.")
    static void unsaidFromNoneToThirtyNine() {
        LastWordAt x = Edge.table(8);
        x.say(7, 0);
        Due.due("it HOLDS alone", x.unsaid(7), 0);
        x.say(7, 0);
        Due.due("its own are in nobody's way", x.unsaid(7), 0);
        x.ask();
        Due.due("nor the old man's in the same MOMENT", x.unsaid(7), 0);
        x.pass(1);
        x.ask();
        Due.due("his, later", x.unsaid(7), 1);
        for (int i = 4; i < 40; i++) {
            x.say(0, 0);
        }
        Due.due("all of them", x.unsaid(7), 37);
        Due.due("0 HOLDS with him", x.unsaid(0), 0);
    }

    @Says(promise = 37, words = "NONE: none, and for others.")
    static void unsaidOfOthers() {
        LastWordAt x = Edge.table(2);
        Due.due("nothing was said", x.unsaid(0), -1);
        x.say(0, 0);
        Due.due("it said nothing", x.unsaid(1), -1);
        for (int guest : new int[] {2, 8, -1, Edge.MIN, Edge.MAX}) {
            Due.due("GUEST " + guest, x.unsaid(guest), -1);
        }
        x.ask();
        Due.due("the old man is no GUEST", x.unsaid(8), -1);
    }

    @Says(promise = 37, words = "UNSAID: the fewest of THE LOG without which just a told GUEST would HOLD; none (it has nothing that FALLS).")
    static void nothingThatFalls() {
        LastWordAt x = Edge.table(3);
        Edge.rule(x, "counts rank#1;");
        x.say(1, 0);
        Due.due("nothing that FALLS", x.unsaid(1), -1);
        x.say(0, 0);
        x.pass(1);
        x.say(1, 0);
        x.say(2, 0);
        Due.due("what doesn't count isn't in its way", x.unsaid(0), 1);
        x.say(0, 0);
        Due.due("by its latest", x.unsaid(0), 1);
        x.say(2, 0);
        Due.due("by its latest", x.unsaid(0), 2);
        x.pass(1);
        x.say(0, 0);
        Due.due("by its latest", x.unsaid(0), 0);
        Due.due("its own are in the other's way", x.unsaid(2), 2);
        x.dinner();
        Due.due("tonight nothing was said", x.unsaid(0), -1);
        LastWordAt late = new LastWordAt();
        late.guest(5, 0, -1);
        late.guest(5, 9, -1);
        late.say(0, 0);
        late.say(1, 0);
        Due.due("the first of THE LOG FALLS later", late.unsaid(1), 1);
    }

    @Says(promise = 37, words = "THE LOG of tonight")
    static void lastNightsWordsAreGone() {
        LastWordAt x = new LastWordAt();
        x.guest(5, 9, -1);
        x.guest(5, 9, -1);
        x.guest(5, 0, -1);
        x.say(0, 0);
        x.say(2, 0);
        x.say(2, 0);
        x.dinner();
        Due.due("UNSAID of one that spoke last night", x.unsaid(2), -1);
        x.say(0, 0);
        Due.due("UNSAID", x.unsaid(0), 0);
        Due.due("UNSAID of one that spoke last night", x.unsaid(2), -1);
        Due.due("PROVOKED: the lowest, as nobody is in its way", x.provoked(0, 0), 1);
        x.pass(5);
        Due.due("HELD", x.held(0), 5);
        Due.due("HELD by one that spoke last night", x.held(2), 0);
        Due.due("SILENCE", x.silence(), 5);
        Due.due("TOLD", x.told(2, 0), 0);
        Due.due("WHISPERED", x.whispered(1, 2), 2);
        Due.due("IF HE ASKED", x.ifAsked(0), 1);
    }

    // ---- 38: nextToast ----

    @Says(promise = 38, words = "NONE: none.")
    static void nobodyGivesAToast() {
        LastWordAt x = new LastWordAt();
        Due.due("without GUESTS", x.nextToast(), -1);
        x.guest(5, 5, 0);
        Due.due("one", x.nextToast(), 0);
        x.pass(1);
        Due.due("none is THERE", x.nextToast(), -1);
    }

    @Says(promise = 38, words = "NEXT TOAST: of those THERE with the fewest TOASTS the one of the greatest RANK, of like ones the lowest; none.")
    static void theFewestToasts() {
        LastWordAt x = new LastWordAt();
        for (int rank : new int[] {5, 9, 5, 9}) {
            x.guest(rank, 5, -1);
        }
        int[] order = {1, 3, 0, 2, 1};
        for (int i = 0; i < 5; i++) {
            Due.due("the next", x.nextToast(), order[i]);
            x.say(order[i], 2);
        }
        Due.due("the next", x.nextToast(), 3);
        x.say(3, 0);
        Due.due("a word is no toast", x.nextToast(), 3);
        x.send(3);
        Due.due("one that is gone isn't", x.nextToast(), 0);
        x.dinner();
        Due.due("a new evening", x.nextToast(), 1);
    }

    @Says(promise = 38, words = "NEXT TOAST.")
    static void theLogIsFullForToasts() {
        LastWordAt x = Edge.table(1);
        for (int i = 0; i < 40; i++) {
            x.say(0, 2);
        }
        Due.due("THE LOG is full", x.nextToast(), 0);
        Due.due("nothing is said", x.about(3), 40);
    }
}
