import java.util.function.IntPredicate;
import java.util.function.IntUnaryOperator;

/** Asks a call with every number of a range, and with those just outside, far outside, and a wrap of bits away. */
final class Ranges {
    private static final int[] BITS = {8, 16, 20, 31, 32, 64, 128, 256, 1 << 16, 1 << 24, Integer.MIN_VALUE};

    private Ranges() {
    }

    /** The numbers of the range are taken, others refused. */
    static void due(String what, int low, int high, IntPredicate isTaken) {
        dueAnswers(what, low, high, n -> isTaken.test(n) ? 1 : CattleShow.NONE, n -> 1);
    }

    /** The numbers of the range are answered as told, others with NONE. */
    static void dueAnswers(String what, int low, int high, IntUnaryOperator call, IntUnaryOperator want) {
        for (int n = low; n <= high; n++) {
            Check.due(what + " " + n, call.applyAsInt(n), want.applyAsInt(n));
        }
        dueNone(what, low, high, call, low - 1, high + 1, Integer.MIN_VALUE, Integer.MAX_VALUE, ~low, ~high);
        for (int bits : BITS) {
            dueNone(what, low, high, call, low + bits, low - bits, high + bits, high - bits);
        }
    }

    private static void dueNone(String what, int low, int high, IntUnaryOperator call, int... numbers) {
        for (int n : numbers) {
            if (n < low || n > high) {
                Check.due(what + " " + n, call.applyAsInt(n), CattleShow.NONE);
            }
        }
    }
}
