import java.util.Arrays;

/** Counts and prints what is not as due. */
final class Expect {
    private static int wrong = 0;
    private static int asked = 0;
    private static String about = "";

    private Expect() {
    }

    /** Runs the test of one sentence of the document, which is printed with all that it finds. */
    static void sentence(String words, Runnable test) {
        int before = asked;
        about = "\"" + words + "\": ";
        test.run();
        same("the test asks something", asked > before, true);
        about = "";
    }

    static void same(String what, long got, long due) {
        asked++;
        if (got != due) {
            tell(what, Long.toString(got), Long.toString(due));
        }
    }

    static void same(String what, boolean got, boolean due) {
        same(what, got ? 1 : 0, due ? 1 : 0);
    }

    static void same(String what, int[] got, int[] due) {
        asked++;
        if (!Arrays.equals(got, due)) {
            tell(what, Arrays.toString(got), Arrays.toString(due));
        }
    }

    static void same(String what, String got, String due) {
        asked++;
        if (!got.equals(due)) {
            tell(what, got, due);
        }
    }

    /** The whole tree of a map, as far as its face shows it. */
    static void tree(String what, WitnessedMap map, Shape due) {
        same(what + ", tree", Maps.wholeTree(map), due.tokens());
        same(what + ", root", map.root(), due.digest());
        same(what + ", size", map.size(), due.count());
        same(what + ", height", map.height(), due.height());
    }

    private static void tell(String what, String got, String due) {
        wrong++;
        System.out.println(about + what + ": got " + got + ", due is " + due);
    }

    static int wrongSoFar() {
        return wrong;
    }

    static void finish() {
        System.out.println(asked + " asked, " + wrong + " not as due");
        if (wrong != 0 || asked == 0) {
            System.exit(1);
        }
    }
}
