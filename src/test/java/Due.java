/** Counts and prints the answers that are not as due; not a test itself. */
final class Due {
    private static int wrong = 0;

    private Due() {
    }

    static void eq(String call, long got, long want) {
        alike(call, got, want);
    }

    static void is(String call, boolean got, boolean want) {
        alike(call, got, want);
    }

    static void alike(String call, Object got, Object want) {
        if (!got.equals(want)) {
            wrong++;
            System.out.println(call + " answered " + got + ", due is " + want);
        }
    }

    static void end() {
        System.out.println(wrong == 0 ? "all answers are as due" : wrong + " answers are not as due");
        if (wrong != 0) {
            System.exit(1);
        }
    }
}
