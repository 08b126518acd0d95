/** Promises 26 to 31 and 33 to 38: what THE LOG tells, toasts and who stays. */
public final class LogTest {
    public static void main(String[] args) {
        nobody();
        whispers();
        theOldManLast();
        silences();
        ranks();
        told();
        held();
        stays();
        provoked();
        unsaid();
        toasts();
        Due.finish();
    }

    private static void nobody() {
        LastWordAt x = new LastWordAt();
        Due.due("whispered", x.whispered(0, 0), 0);
        Due.due("twoWhispered", x.twoWhispered(0, 0, 0, -1), 0);
        Due.due("ifAsked", x.ifAsked(0), 0);
        Due.due("silence", x.silence(), 1);
        Due.due("byRank", x.byRank(0), -1);
        Due.due("stays", x.stays(0), 0);
        Due.due("nextToast", x.nextToast(), -1);
        Due.due("round", x.round(1, 0), -1);
        Due.due("held", x.held(0), -1);
        Due.due("unsaid", x.unsaid(0), -1);
        Due.due("provoked", x.provoked(0, 0), -1);
        Due.due("told", x.told(0, 0), -1);
    }

    /** GUESTS that hear well, and one that hears nothing (its words FALL three MOMENTS later). */
    private static LastWordAt table(int guests) {
        LastWordAt x = new LastWordAt();
        for (int g = 0; g < guests - 1; g++) {
            x.guest(g, 5, -1);
        }
        x.guest(9, 0, -1);
        return x;
    }

    private static void whispers() {
        LastWordAt x = table(4);
        x.pass(5);
        x.say(1, 0);
        Due.due("later", x.whispered(6, 4), 4);
        Due.due("999", x.whispered(999, 8), 8);
        Due.due("with it", x.whispered(5, 3), 1);
        Due.due("it again", x.whispered(5, 2), 2);
        Due.due("too early", x.whispered(4, 2), 15);
        Due.due("none", x.whispered(6, 0), 0);
        Due.due("two at once", x.whispered(6, 3), 0);
        Due.due("moment -1", x.whispered(-1, 2), -1);
        Due.due("moment 1000", x.whispered(1000, 2), -1);
        Due.due("set 16", x.whispered(6, 16), -1);
        Due.due("set -1", x.whispered(6, -1), -1);
        Due.due("two with it", x.twoWhispered(5, 5, 7, -1), 1);
        Due.due("two with it", x.twoWhispered(5, 5, 7, 0), 2);
        Due.due("one early", x.twoWhispered(4, 5, 3, -1), 3);
        int[] twos = {1, 2, 3};
        for (int i = 0; i < 3; i++) {
            Due.due("one early " + i, x.twoWhispered(4, 5, 3, i), twos[i]);
        }
        Due.due("the other way round", x.twoWhispered(5, 4, 3, -1), 3);
        Due.due("both early", x.twoWhispered(1, 2, 2, -1), 6);
        Due.due("both early, the last", x.twoWhispered(1, 2, 2, 5), 8 * 2 + 3);
        Due.due("both later", x.twoWhispered(7, 9, 8, -1), 3);
        Due.due("both later", x.twoWhispered(7, 9, 8, 2), 8 * 2 + 3);
        Due.due("i 3", x.twoWhispered(7, 9, 8, 3), -1);
        Due.due("i -2", x.twoWhispered(7, 9, 8, -2), -1);
        Due.due("first -1", x.twoWhispered(-1, 9, 8, -1), -1);
        Due.due("second 1000", x.twoWhispered(1, 1000, 8, -1), -1);
        Due.due("set 16", x.twoWhispered(1, 1, 16, -1), -1);
        Due.due("set -1", x.twoWhispered(1, 1, -1, -1), -1);
        Due.due("asked early", x.ifAsked(4), 2);
        Due.due("asked with it", x.ifAsked(5), 2);
        Due.due("asked later", x.ifAsked(6), 0);
        Due.due("asked 999", x.ifAsked(999), 0);
        Due.due("asked -1", x.ifAsked(-1), -1);
        Due.due("asked 1000", x.ifAsked(1000), -1);
    }

    private static void theOldManLast() {
        LastWordAt x = table(2);
        x.say(0, 0);
        x.pass(2);
        x.ask();
        Due.due("holds", x.holds(true), 0);
        Due.due("ahead of him", x.whispered(1, 0), 3);
        Due.due("with him", x.whispered(2, 1), 1);
        Due.due("two ahead of him", x.twoWhispered(0, 1, 0, -1), 1);
        Due.due("one with him", x.twoWhispered(0, 2, 1, -1), 1);
        Due.due("unsaid", x.unsaid(0), 1);
        Due.due("provoked", x.provoked(0, 0), -1);
        Due.due("asked", x.ifAsked(1), 0);
    }

    private static void silences() {
        LastWordAt x = table(2);
        x.pass(4);
        Due.due("nothing", x.silence(), 5);
        x.say(0, 0);
        Due.due("not ahead", x.silence(), 5);
        x.pass(1);
        Due.due("one", x.silence(), 1);
        x.say(1, 0);
        x.pass(3);
        Due.due("not yet", x.silence(), 4);
        x.pass(2);
        Due.due("two", x.silence(), 2);
        x.ask();
        x.pass(1);
        Due.due("the old man's", x.silence(), 1);
        Due.read(x, "counts 1>2;");
        x.by(0);
        x.say(0, 0);
        x.pass(1);
        Due.due("it doesn't count", x.silence(), 2);
    }

    private static void ranks() {
        LastWordAt x = new LastWordAt();
        int[] rank = {3, 9, 3, 0, 9};
        for (int r : rank) {
            x.guest(r, 5, -1);
        }
        int[] want = {1, 4, 0, 2, 3, -1};
        for (int i = 0; i < 6; i++) {
            Due.due("byRank " + i, x.byRank(i), want[i]);
        }
        Due.due("byRank(-1)", x.byRank(-1), -1);
        x.send(1);
        x.say(0, 3);
        int[] then = {4, 2, 3, -1};
        for (int i = 0; i < 4; i++) {
            Due.due("byRank " + i + " of those there", x.byRank(i), then[i]);
        }
    }

    private static void told() {
        LastWordAt x = table(2);
        x.say(0, 0);
        x.say(0, 0);
        x.say(0, 1);
        x.say(0, 2);
        x.say(1, 2);
        x.say(0, 3);
        int[] want = {2, 1, 1, 1};
        for (int kind = 0; kind < 4; kind++) {
            Due.due("told(0, " + kind + ")", x.told(0, kind), want[kind]);
        }
        Due.due("told(1, 2)", x.told(1, 2), 1);
        Due.due("told(1, 0)", x.told(1, 0), 0);
        Due.due("told(0, 4)", x.told(0, 4), -1);
        Due.due("told(0, -1)", x.told(0, -1), -1);
        Due.due("told(2, 0)", x.told(2, 0), -1);
        Due.due("told(-1, 0)", x.told(-1, 0), -1);
    }

    private static void held() {
        LastWordAt x = table(3);
        Due.due("held(0)", x.held(0), 0);
        x.pass(1);
        x.say(0, 0);
        x.say(2, 0);
        Due.due("not yet", x.held(0), 0);
        x.pass(1);
        Due.due("one", x.held(0), 1);
        x.pass(1);
        x.say(1, 0);
        x.say(0, 0);
        x.pass(1);
        Due.due("held(0)", x.held(0), 3);
        Due.due("held(1)", x.held(1), 1);
        Due.due("held(2)", x.held(2), 0);
        x.pass(2);
        Due.due("held(0)", x.held(0), 3);
        Due.due("held(1)", x.held(1), 1);
        Due.due("held(2)", x.held(2), 2);
        x.ask();
        x.pass(93);
        Due.due("held(2)", x.held(2), 2);
        Due.due("held(3)", x.held(3), -1);
        Due.due("held(-1)", x.held(-1), -1);
        LastWordAt all = table(1);
        all.guest(5, 5, -1);
        all.say(1, 0);
        all.pass(60);
        all.pass(39);
        Due.due("all night", all.held(1), 99);
    }

    private static void stays() {
        LastWordAt x = new LastWordAt();
        x.guest(0, 5, -1);
        x.guest(0, 5, 3);
        x.guest(0, 5, 99);
        x.guest(0, 5, 1);
        x.guest(0, 5, 2);
        Due.due("stays(0)", x.stays(0), 31);
        Due.due("stays(1)", x.stays(1), 31);
        Due.due("stays(2)", x.stays(2), 23);
        x.pass(2);
        x.send(0);
        Due.due("stays(1)", x.stays(1), -1);
        Due.due("stays(2)", x.stays(2), 22);
        Due.due("stays(3)", x.stays(3), 6);
        Due.due("stays(4)", x.stays(4), 4);
        Due.due("stays(99)", x.stays(99), 4);
        Due.due("stays(100)", x.stays(100), -1);
        Due.due("stays(-1)", x.stays(-1), -1);
        x.guest(0, 5, 1);
        Due.due("its carriage is gone", x.stays(99), 36);
    }

    private static void provoked() {
        LastWordAt x = table(4);
        x.say(0, 0);
        x.pass(1);
        x.say(1, 0);
        x.pass(1);
        x.say(2, 0);
        Due.due("two are in the way", x.provoked(0, 0), -1);
        Due.due("one is", x.provoked(1, 0), 2);
        Due.due("from then on", x.provoked(1, 2), 2);
        Due.due("said earlier", x.provoked(1, 3), -1);
        Due.due("it holds already", x.provoked(2, 0), 0);
        x.say(1, 0);
        Due.due("with another", x.provoked(2, 2), 1);
        Due.due("with another", x.provoked(1, 0), 2);
        Due.due("it said nothing", x.provoked(3, 0), -1);
        Due.due("guest 4", x.provoked(4, 0), -1);
        Due.due("guest -1", x.provoked(-1, 0), -1);
        Due.due("moment -1", x.provoked(1, -1), -1);
        Due.due("moment 100", x.provoked(1, 100), -1);
        Due.due("moment 99", x.provoked(1, 99), -1);
        LastWordAt late = table(2);
        late.say(0, 0);
        late.say(1, 0);
        late.pass(3);
        Due.due("said, not FALLING", late.provoked(0, 1), -1);
        Due.due("said, not FALLING", late.provoked(0, 0), 1);
    }

    private static void unsaid() {
        LastWordAt x = table(4);
        x.say(0, 0);
        x.say(3, 0);
        x.pass(1);
        x.say(1, 0);
        x.say(1, 0);
        x.say(0, 0);
        x.ask();
        Due.due("unsaid(0)", x.unsaid(0), 3);
        Due.due("unsaid(1)", x.unsaid(1), 2);
        Due.due("unsaid(2)", x.unsaid(2), -1);
        Due.due("unsaid(3)", x.unsaid(3), 0);
        Due.due("unsaid(4)", x.unsaid(4), -1);
        Due.due("unsaid(-1)", x.unsaid(-1), -1);
        x.pass(3);
        x.ask();
        Due.due("he asked", x.unsaid(3), 1);
        Due.read(x, "counts 1>2;");
        x.by(0);
        x.say(2, 0);
        x.say(1, 0);
        Due.due("it doesn't count", x.unsaid(2), -1);
        Due.due("unsaid(3)", x.unsaid(3), 1);
    }

    private static void toasts() {
        LastWordAt x = new LastWordAt();
        int[] rank = {3, 9, 3, 5};
        for (int r : rank) {
            x.guest(r, 5, -1);
        }
        Due.due("next", x.nextToast(), 1);
        int[] want = {1, 3, 0, 2, 1, 3, 0, 2, 1, 3, 0, 2, 1, 3, 0, 2, 1, 3, 0, 2};
        for (int i = 0; i < 20; i++) {
            Due.due("round(20, " + i + ")", x.round(20, i), want[i]);
        }
        Due.due("round(20, 20)", x.round(20, 20), -1);
        Due.due("round(21, 0)", x.round(21, 0), -1);
        Due.due("round(0, 0)", x.round(0, 0), -1);
        Due.due("round(5, 5)", x.round(5, 5), -1);
        Due.due("round(5, -1)", x.round(5, -1), -1);
        x.say(1, 2);
        x.say(1, 2);
        x.say(3, 3);
        int[] then = {0, 2, 0, 2, 1, 0, 2};
        for (int i = 0; i < 7; i++) {
            Due.due("round(7, " + i + ")", x.round(7, i), then[i]);
        }
        Due.due("nothing is done", x.of(0, 5), 0);
        Due.due("next", x.nextToast(), 0);
        x.send(0);
        Due.due("next", x.nextToast(), 2);
        x.send(2);
        Due.due("next", x.nextToast(), 1);
        x.send(1);
        Due.due("none is there", x.nextToast(), -1);
        Due.due("none is there", x.round(3, 0), -1);
        Due.due("none is there", x.round(3, 2), -1);
    }
}
