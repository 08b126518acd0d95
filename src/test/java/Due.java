import java.nio.charset.StandardCharsets;

/** What the tests share: what is due of a call, and texts brought to an object's tape. */
final class Due {
    private static int wrong = 0;
    private static int asked = 0;

    private Due() {
    }

    static void due(String call, long got, long want) {
        asked++;
        if (got != want) {
            wrong++;
            System.out.println(call + " answered " + got + ", due is " + want);
        }
    }

    static void due(String call, boolean got, boolean want) {
        due(call, got ? 1 : 0, want ? 1 : 0);
    }

    static void same(String what, String got, String want) {
        asked++;
        if (!got.equals(want)) {
            wrong++;
            System.out.println(what + ": got " + got + ", due is " + want);
        }
    }

    static int asked() {
        return asked;
    }

    static int wrong() {
        return wrong;
    }

    static void finish() {
        System.out.println(asked + " answers asked, " + wrong + " not as due");
        if (wrong != 0) {
            System.exit(1);
        }
    }

    /** The tape has just this text then. */
    static void tape(LastWordAt x, String text) {
        tape(x, text.getBytes(StandardCharsets.ISO_8859_1));
    }

    static void tape(LastWordAt x, byte[] bytes) {
        x.end(0);
        for (int at = 0; at < bytes.length; at += 20) {
            int[] a = new int[5];
            for (int i = 0; i < 20; i++) {
                int one = at + i < bytes.length ? bytes[at + i] & 255 : 0;
                a[i / 4] |= one << 24 - 8 * (i % 4);
            }
            x.feed(a[0], a[1], a[2], a[3], a[4]);
        }
        due("end of " + new String(bytes, StandardCharsets.ISO_8859_1), x.end(bytes.length), bytes.length);
    }

    static int read(LastWordAt x, String text) {
        tape(x, text);
        return x.text();
    }

    /** A text with a FAULT, on a new object. */
    static void faulty(String text, int fault, int place) {
        LastWordAt x = new LastWordAt();
        due("text " + text, read(x, text), -1);
        due("fault(0) of " + text, x.fault(0), fault);
        due("fault(1) of " + text, x.fault(1), place);
        due("fault(2) of " + text, x.fault(2), -1);
        due("fault(-1) of " + text, x.fault(-1), -1);
        due("about(9) behind " + text, x.about(9), 0);
        due("about(5) behind " + text, x.about(5), 0);
    }

    /** A text without a FAULT, on a new object. */
    static LastWordAt sound(String text) {
        LastWordAt x = new LastWordAt();
        due("text " + text, read(x, text), 0);
        due("fault(0) of " + text, x.fault(0), 0);
        due("fault(1) of " + text, x.fault(1), -1);
        return x;
    }
}
