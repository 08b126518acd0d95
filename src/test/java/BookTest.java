import java.math.BigInteger;

/** Promises 20 to 25 and 32: what the book tells. */
public final class BookTest {
    public static void main(String[] args) {
        nothingWritten();
        odds();
        thatNight();
        theBook();
        theLongest();
        manyHeirs();
        Due.finish();
    }

    private static void nothingWritten() {
        LastWordAt x = new LastWordAt();
        x.guest(1, 5, -1);
        Due.due("inherits", x.inherits(0, 1, false), -1);
        Due.due("open", x.open(1, false), -1);
        Due.due("thatNight", x.thatNight(1, 1, 0, false), -1);
        Due.due("tally", x.tally(0, false), 0);
        Due.due("longest", x.longest(false), 0);
        Due.due("longest set", x.longest(true), -1);
        Due.due("which", x.which(0), 0);
        Due.due("meanDies", x.meanDies(false), -1);
        Due.due("meanDies", x.meanDies(true), -1);
    }

    /** Nights in which those of a set HELD, and he dies with p out of 100. */
    private static LastWordAt nights(int guests, int[]... nights) {
        LastWordAt x = new LastWordAt();
        for (int g = 0; g < guests; g++) {
            x.guest(g, 5, -1);
        }
        // dies comes by WINE and MOMENT: tens by MOMENTS passed, ones by toasts.
        Due.read(x, "dies moment*10+wine;");
        x.by(0);
        for (int[] night : nights) {
            for (int i = 0; i < night[1] % 10; i++) {
                x.say(0, 2);
            }
            if (night[1] >= 10) {
                x.pass(night[1] / 10);
            } else {
                // Toasts FALL in 0: he asks behind them in a MOMENT that doesn't count for dies.
                x.ask();
            }
            for (int g = 0; g < guests; g++) {
                if ((night[0] >> g & 1) == 1) {
                    x.say(g, 0);
                }
            }
            if (night[0] == 0 && night[1] >= 10) {
                x.ask();
            }
            Due.due("night of " + night[0], x.dinner(), night[0]);
        }
        return x;
    }

    private static void odds() {
        LastWordAt x = nights(3, new int[] {1, 50}, new int[] {3, 20}, new int[] {0, 30}, new int[] {7, 40});
        Due.due("inherits(0, 1)", x.inherits(0, 1, false), 2);
        Due.due("inherits(0, 1)", x.inherits(0, 1, true), 15);
        Due.due("inherits(2, 2)", x.inherits(2, 2, false), 7);
        Due.due("inherits(2, 2)", x.inherits(2, 2, true), 75);
        // 1/2 + 1/2 * 1/5 * 1/2 + 1/2 * 4/5 * 7/10 * 2/5 * 1/3 = 1/2 + 1/20 + 14/375 = 881/1500.
        Due.due("inherits(0, 4)", x.inherits(0, 4, false), 881);
        Due.due("inherits(0, 4)", x.inherits(0, 4, true), 1500);
        Due.due("inherits(0, 5)", x.inherits(0, 5, true), -1);
        Due.due("inherits(0, 0)", x.inherits(0, 0, true), -1);
        Due.due("inherits(3, 1)", x.inherits(3, 1, true), -1);
        Due.due("inherits(-1, 1)", x.inherits(-1, 1, true), -1);
        Due.due("open(1)", x.open(1, false), 3);
        Due.due("open(1)", x.open(1, true), 5);
        // 3/10 + 7/10 * 3/5 = 18/25.
        Due.due("open(2)", x.open(2, false), 18);
        Due.due("open(2)", x.open(2, true), 25);
        // 1 - 1/2 - 1/10 - 14/125.
        Due.due("open(4)", x.open(4, false), 36);
        Due.due("open(4)", x.open(4, true), 125);
        Due.due("open(0)", x.open(0, true), -1);
        Due.due("open(5)", x.open(5, true), -1);
        Due.due("open(7)", x.open(7, true), -1);
        Due.due("meanDies", x.meanDies(false), 35);
        Due.due("meanDies", x.meanDies(true), 1);
        LastWordAt sure = nights(2, new int[] {1, 100}, new int[] {2, 50});
        Due.due("sure", sure.inherits(0, 2, false), 1);
        Due.due("sure", sure.inherits(0, 2, true), 1);
        Due.due("never", sure.inherits(1, 2, false), 0);
        Due.due("never", sure.inherits(1, 2, true), 1);
        Due.due("open", sure.open(2, false), 0);
        Due.due("open", sure.open(2, true), 1);
        Due.due("that night can't be", sure.thatNight(2, 2, 1, false), -1);
    }

    private static void thatNight() {
        LastWordAt x = nights(2, new int[] {1, 50}, new int[] {2, 50}, new int[] {1, 50}, new int[] {1, 0});
        // 1/2 and 1/8.
        Due.due("thatNight 0", x.thatNight(1, 4, 0, false), 4);
        Due.due("thatNight 0", x.thatNight(1, 4, 0, true), 5);
        Due.due("thatNight 2", x.thatNight(1, 4, 2, false), 1);
        Due.due("thatNight 2", x.thatNight(1, 4, 2, true), 5);
        Due.due("thatNight 1", x.thatNight(1, 4, 1, false), 0);
        Due.due("thatNight 1", x.thatNight(1, 4, 1, true), 1);
        Due.due("thatNight 3", x.thatNight(1, 4, 3, false), 0);
        Due.due("the latest three", x.thatNight(1, 3, 1, false), 1);
        Due.due("the latest alone", x.thatNight(1, 1, 0, false), -1);
        Due.due("nobody", x.thatNight(0, 4, 0, false), -1);
        Due.due("both", x.thatNight(3, 4, 0, false), -1);
        Due.due("not told", x.thatNight(4, 4, 0, false), -1);
        Due.due("below", x.thatNight(-1, 4, 0, false), -1);
        Due.due("i 4", x.thatNight(1, 4, 4, false), -1);
        Due.due("i -1", x.thatNight(1, 4, -1, false), -1);
        Due.due("n 5", x.thatNight(1, 5, 0, false), -1);
        Due.due("n 0", x.thatNight(1, 0, 0, false), -1);
    }

    private static void theBook() {
        LastWordAt x = nights(2, new int[] {1, 50}, new int[] {3, 50}, new int[] {0, 20}, new int[] {1, 11});
        Due.due("alone", x.tally(0, true), 2);
        Due.due("at all", x.tally(0, false), 3);
        Due.due("alone", x.tally(1, true), 0);
        Due.due("at all", x.tally(1, false), 1);
        Due.due("tally(2)", x.tally(2, false), -1);
        Due.due("tally(-1)", x.tally(-1, true), -1);
        Due.due("which(1)", x.which(1), 9);
        Due.due("which(0)", x.which(0), 4);
        Due.due("which(2)", x.which(2), 0);
        Due.due("which(3)", x.which(3), 2);
        Due.due("which(4)", x.which(4), -1);
        Due.due("which(-1)", x.which(-1), -1);
        Due.due("meanDies", x.meanDies(false), 131);
        Due.due("meanDies", x.meanDies(true), 4);
    }

    private static void theLongest() {
        LastWordAt x = nights(2, new int[] {1, 10}, new int[] {2, 10}, new int[] {2, 10}, new int[] {1, 10},
                new int[] {1, 10}, new int[] {2, 10});
        Due.due("longest", x.longest(false), 2);
        Due.due("of the earlier", x.longest(true), 2);
        for (int i = 0; i < 3; i++) {
            x.dinner();
        }
        Due.due("longest", x.longest(false), 3);
        Due.due("none", x.longest(true), 0);
        for (int i = 0; i < 20; i++) {
            x.dinner();
        }
        Due.due("all that is kept", x.longest(false), 20);
        Due.due("which none", x.which(0), (1 << 20) - 1);
        Due.due("inherits(0, 7)", x.inherits(0, 7, false), -1);
        Due.due("open(7)", x.open(7, false), -1);
        Due.due("thatNight of 7", x.thatNight(1, 7, 0, false), -1);
        Due.due("inherits(0, 6)", x.inherits(0, 6, false), 0);
    }

    private static void manyHeirs() {
        LastWordAt x = new LastWordAt();
        for (int g = 0; g < 8; g++) {
            x.guest(g, 5, -1);
        }
        Due.read(x, "dies 33-night;");
        x.by(0);
        for (int many = 8; many >= 3; many--) {
            for (int g = 0; g < many; g++) {
                x.say(g, 0);
            }
            x.dinner();
        }
        // 33/800 + 67/100 * 32/700 + ..., by a common denominator of 840 * 100^6.
        BigInteger up = BigInteger.ZERO;
        BigInteger alive = BigInteger.ONE;
        BigInteger hundred = BigInteger.valueOf(100);
        for (int i = 0; i < 6; i++) {
            long dies = 33 - i;
            up = up.multiply(hundred).add(alive.multiply(BigInteger.valueOf(dies * (840 / (8 - i)))));
            alive = alive.multiply(BigInteger.valueOf(100 - dies));
        }
        BigInteger low = hundred.pow(6).multiply(BigInteger.valueOf(840));
        BigInteger common = up.gcd(low);
        Due.due("inherits(0, 6)", x.inherits(0, 6, false), up.divide(common).longValueExact());
        Due.due("inherits(0, 6)", x.inherits(0, 6, true), low.divide(common).longValueExact());
    }
}
