import java.util.function.IntSupplier;

/** Compares answers with those that are due, and ends a test with exit code 1 if one was other. */
final class Due {
    private static int right = 0;
    private static int wrong = 0;

    private Due() {
    }

    static int right() {
        return right;
    }

    static int wrong() {
        return wrong;
    }

    static void is(String call, long got, long want) {
        if (got == want) {
            right++;
        } else {
            wrong++;
            System.out.println("  " + call + " answered " + got + ", due is " + want);
        }
    }

    static void is(String call, boolean got, boolean want) {
        is(call, got ? 1 : 0, want ? 1 : 0);
    }

    /** A call that is refused: with this answer, and nothing in the object is other than before. */
    static void isRefused(String name, HerdMasters herd, IntSupplier call, int want) {
        String before = Inside.picture(herd);
        is(name, call.getAsInt(), want);
        is(name + " changes nothing", Inside.picture(herd).equals(before), true);
    }

    static void end() {
        System.out.println("  " + right + " answers as due, " + wrong + " not");
        if (wrong != 0 || right == 0) {
            System.exit(1);
        }
    }
}
