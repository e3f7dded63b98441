import java.util.Arrays;

/** Counts and prints what is not as due. */
final class Expect {
    private static int wrong = 0;
    private static int asked = 0;

    private Expect() {
    }

    static void same(String what, long got, long due) {
        asked++;
        if (got != due) {
            wrong++;
            System.out.println(what + ": got " + got + ", due is " + due);
        }
    }

    static void same(String what, boolean got, boolean due) {
        same(what, got ? 1 : 0, due ? 1 : 0);
    }

    static void same(String what, int[] got, int[] due) {
        asked++;
        if (!Arrays.equals(got, due)) {
            wrong++;
            System.out.println(what + ": got " + Arrays.toString(got) + ", due is " + Arrays.toString(due));
        }
    }

    static void same(String what, String got, String due) {
        asked++;
        if (!got.equals(due)) {
            wrong++;
            System.out.println(what + ": got " + got + ", due is " + due);
        }
    }

    static int wrongSoFar() {
        return wrong;
    }

    static void finish() {
        System.out.println(asked + " asked, " + wrong + " not as due");
        if (wrong != 0 || asked == 0) {
            System.exit(1);
        }
    }
}
