/** What the document's terms say of proofs and spans: a test for each sentence, at its edges. */
public final class ProofTest {
    private static final int LEAST = Integer.MIN_VALUE;
    private static final int LARGEST = Integer.MAX_VALUE;

    private static final Shape TEN = Maps.leaf(10, 20);
    private static final Shape THIRTY = Maps.leaf(30, 40);
    private static final Shape FIFTY = Maps.leaf(50, 60);
    private static final Shape SEVENTY = Maps.leaf(70, 80);
    private static final Shape LEFT = Shape.inner(TEN, THIRTY);
    private static final Shape RIGHT = Shape.inner(FIFTY, SEVENTY);

    private ProofTest() {
    }

    public static void main(String[] args) {
        Expect.sentence("A PROOF for a range of keys from a to b (a <= b)", ProofTest::rangeOfOne);
        Expect.sentence("if it is a leaf: 1, its size, and key and value of each entry", ProofTest::leafTokens);
        Expect.sentence("if it is inner: 2, its size, and for each child: its proof, or, "
                + "if it is LEFT OUT: 0, its least key, digest and count", ProofTest::innerTokens);
        Expect.sentence("a child's SPAN is from its least key", ProofTest::spanBegins);
        Expect.sentence("up to, but not with, that of the next child of the same node", ProofTest::spanEnds);
        Expect.sentence("the last one's up to where its parent's span ends", ProofTest::lastEndsWithItsParent);
        Expect.sentence("the root's is from any to any number", ProofTest::rootHasNoBounds);
        Expect.sentence("the first child's of a node from where the node's begins",
                ProofTest::firstBeginsWithItsNode);
        Expect.sentence("For rows: those whose span has no number from a to b.", ProofTest::leftOutForRows);
        Expect.sentence("For a count: also those whose span has only such.", ProofTest::leftOutForCounts);
        Expect.sentence("Left out are only children, not the root.", ProofTest::rootIsNeverLeftOut);
        Expect.finish();
    }

    private static WitnessedMap eight() {
        return Maps.of(3, 10, 20, 30, 40, 50, 60, 70, 80);
    }

    private static void rows(int a, int b, Shape... children) {
        Expect.same("rows " + a + " to " + b, Maps.proof(eight(), a, b, false), Shape.inner(children).tokens());
    }

    private static void count(int a, int b, Shape... children) {
        Expect.same("count " + a + " to " + b, Maps.proof(eight(), a, b, true), Shape.inner(children).tokens());
    }

    private static void rangeOfOne() {
        Shape due = Shape.inner(Shape.inner(TEN.out(), THIRTY), RIGHT.out());
        Expect.same("an entry", Maps.proof(eight(), 40, 40, false), due.tokens());
        Expect.same("no entry", Maps.proof(eight(), 41, 41, false), due.tokens());
        Expect.same("an entry, count", Maps.proof(eight(), 40, 40, true), due.tokens());
        Expect.same("no entry, count", Maps.proof(eight(), 41, 41, true), due.tokens());
        // A leaf has two entries or more, so a range of one never holds its span.
        Shape narrow = Shape.inner(
                Maps.leaf(1, 2).out(), Maps.leaf(3, 4).out(), Maps.leaf(5, 6).out());
        Expect.same("a span of two, count", Maps.proof(Maps.upTo(3, 6), 3, 4, true), narrow.tokens());
        Expect.same("half of it, count", Maps.proof(Maps.upTo(3, 6), 3, 3, true),
                Shape.inner(Maps.leaf(1, 2).out(), Maps.leaf(3, 4), Maps.leaf(5, 6).out()).tokens());
    }

    private static void leafTokens() {
        Expect.same("without entries", Maps.proof(new WitnessedMap(3), 0, 0, false), new int[] {1, 0});
        Expect.same("without entries, count", Maps.proof(new WitnessedMap(3), 0, 0, true), new int[] {1, 0});
        Expect.same("with one", Maps.proof(Maps.of(3, 7), 0, 9, false), new int[] {1, 1, 7, 70});
        Expect.same("full", Maps.proof(Maps.upTo(5, 5), 0, 9, false),
                new int[] {1, 5, 1, 10, 2, 20, 3, 30, 4, 40, 5, 50});
        Expect.same("not only the entries asked for", Maps.proof(Maps.upTo(3, 3), 2, 2, false),
                new int[] {1, 3, 1, 10, 2, 20, 3, 30});
    }

    private static void innerTokens() {
        int[] due = {2, 2, 0, 10, TEN.digest(), 2, 1, 2, 30, 300, 40, 400};
        Expect.same("a leaf left out", Maps.proof(Maps.of(3, 10, 20, 30, 40), 30, 40, false), due);
        int[] nested = {2, 2, 0, 10, LEFT.digest(), 4, 2, 2, 0, 50, FIFTY.digest(), 2, 1, 2, 70, 700, 80, 800};
        Expect.same("an inner node left out", Maps.proof(eight(), 80, 90, false), nested);
        // All is shown, and 30 leaves with LOW lie in the most nodes that 60 entries can have.
        int most = Maps.upTo(3, 60).prove(1, 60, false);
        Expect.same("the longest of all", most, 2 * 60 + 2 * (30 + 15 + 7 + 3 + 1));
    }

    private static void spanBegins() {
        rows(30, 30, Shape.inner(TEN.out(), THIRTY), RIGHT.out());
        rows(29, 29, Shape.inner(TEN, THIRTY.out()), RIGHT.out());
        rows(29, 30, LEFT, RIGHT.out());
        rows(50, 50, LEFT.out(), Shape.inner(FIFTY, SEVENTY.out()));
        rows(49, 50, Shape.inner(TEN.out(), THIRTY), Shape.inner(FIFTY, SEVENTY.out()));
        count(30, 49, Shape.inner(TEN.out(), THIRTY.out()), RIGHT.out());
        count(31, 49, Shape.inner(TEN.out(), THIRTY), RIGHT.out());
        // It is the least key of now, not the one that was.
        WitnessedMap map = Maps.of(3, 10, 20, 30, 40, 50);
        map.remove(30);
        Expect.same("the least key has gone", Maps.proof(map, 30, 39, false),
                Shape.inner(TEN, Maps.leaf(40, 50).out()).tokens());
    }

    private static void spanEnds() {
        rows(29, 29, Shape.inner(TEN, THIRTY.out()), RIGHT.out());
        rows(69, 69, LEFT.out(), Shape.inner(FIFTY, SEVENTY.out()));
        rows(70, 70, LEFT.out(), Shape.inner(FIFTY.out(), SEVENTY));
        count(50, 69, LEFT.out(), Shape.inner(FIFTY.out(), SEVENTY.out()));
        count(50, 68, LEFT.out(), Shape.inner(FIFTY, SEVENTY.out()));
        count(50, 70, LEFT.out(), Shape.inner(FIFTY.out(), SEVENTY));
    }

    private static void lastEndsWithItsParent() {
        rows(41, 49, Shape.inner(TEN.out(), THIRTY), RIGHT.out());
        rows(49, 49, Shape.inner(TEN.out(), THIRTY), RIGHT.out());
        rows(50, 50, LEFT.out(), Shape.inner(FIFTY, SEVENTY.out()));
        count(30, 49, Shape.inner(TEN.out(), THIRTY.out()), RIGHT.out());
        count(30, 48, Shape.inner(TEN.out(), THIRTY), RIGHT.out());
        rows(81, 9999, LEFT.out(), Shape.inner(FIFTY.out(), SEVENTY));
        Shape middle = Shape.inner(Maps.leaf(5, 6), Maps.leaf(7, 8));
        Shape last = Shape.inner(Maps.leaf(9, 10), Maps.leaf(11, 12));
        Shape first = Shape.inner(Maps.leaf(1, 2), Maps.leaf(3, 4));
        Expect.same("an inner node up to the next", Maps.proof(Maps.upTo(3, 12), 5, 8, true),
                Shape.inner(first.out(), middle.out(), last.out()).tokens());
        Expect.same("an inner node but for one", Maps.proof(Maps.upTo(3, 12), 5, 7, true), Shape.inner(
                first.out(), Shape.inner(Maps.leaf(5, 6).out(), Maps.leaf(7, 8)), last.out()).tokens());
    }

    private static void rootHasNoBounds() {
        Shape firstAndLast = Shape.inner(TEN, THIRTY.out());
        Shape lastOnly = Shape.inner(FIFTY.out(), SEVENTY);
        count(10, 80, Shape.inner(TEN, THIRTY.out()), Shape.inner(FIFTY.out(), SEVENTY));
        count(-9999, 9999, firstAndLast, lastOnly);
        count(-10000, 10000, firstAndLast, lastOnly);
        count(LEAST, LARGEST, firstAndLast, lastOnly);
        count(LEAST + 1, LARGEST - 1, firstAndLast, lastOnly);
        rows(LEAST, LARGEST, LEFT, RIGHT);
        rows(LEAST, LEAST, Shape.inner(TEN, THIRTY.out()), RIGHT.out());
        rows(LARGEST, LARGEST, LEFT.out(), Shape.inner(FIFTY.out(), SEVENTY));
        count(LEAST, LEAST, Shape.inner(TEN, THIRTY.out()), RIGHT.out());
        count(LARGEST, LARGEST, LEFT.out(), Shape.inner(FIFTY.out(), SEVENTY));
    }

    private static void firstBeginsWithItsNode() {
        rows(9, 9, Shape.inner(TEN, THIRTY.out()), RIGHT.out());
        rows(-9999, -9999, Shape.inner(TEN, THIRTY.out()), RIGHT.out());
        count(10, 29, Shape.inner(TEN, THIRTY.out()), RIGHT.out());
        count(-9999, 29, Shape.inner(TEN, THIRTY.out()), RIGHT.out());
        count(50, 69, LEFT.out(), Shape.inner(FIFTY.out(), SEVENTY.out()));
        count(51, 69, LEFT.out(), Shape.inner(FIFTY, SEVENTY.out()));
        count(49, 69, Shape.inner(TEN.out(), THIRTY), Shape.inner(FIFTY.out(), SEVENTY.out()));
    }

    private static void leftOutForRows() {
        rows(10, 80, LEFT, RIGHT);
        rows(29, 50, LEFT, Shape.inner(FIFTY, SEVENTY.out()));
        rows(30, 49, Shape.inner(TEN.out(), THIRTY), RIGHT.out());
        rows(30, 70, Shape.inner(TEN.out(), THIRTY), RIGHT);
        rows(21, 28, Shape.inner(TEN, THIRTY.out()), RIGHT.out());
    }

    private static void leftOutForCounts() {
        count(29, 70, Shape.inner(TEN, THIRTY.out()), Shape.inner(FIFTY.out(), SEVENTY));
        count(30, 69, Shape.inner(TEN.out(), THIRTY.out()), Shape.inner(FIFTY.out(), SEVENTY.out()));
        count(31, 68, Shape.inner(TEN.out(), THIRTY), Shape.inner(FIFTY, SEVENTY.out()));
        count(21, 28, Shape.inner(TEN, THIRTY.out()), RIGHT.out());
        count(31, 48, Shape.inner(TEN.out(), THIRTY), RIGHT.out());
    }

    private static void rootIsNeverLeftOut() {
        int[] leaf = Maps.leaf(1, 2, 3).tokens();
        for (boolean counts : new boolean[] {false, true}) {
            Expect.same("far above", Maps.proof(Maps.upTo(3, 3), 70, 80, counts), leaf);
            Expect.same("far below", Maps.proof(Maps.upTo(3, 3), LEAST, -70, counts), leaf);
            Expect.same("all", Maps.proof(Maps.upTo(3, 3), LEAST, LARGEST, counts), leaf);
            Expect.same("nothing", Maps.proof(new WitnessedMap(4), LEAST, LARGEST, counts), new int[] {1, 0});
        }
        // Though all of its children are left out.
        count(30, 69, Shape.inner(TEN.out(), THIRTY.out()), Shape.inner(FIFTY.out(), SEVENTY.out()));
        WitnessedMap flat = Maps.of(3, 0, 5, 10, 20, 30, 40);
        Expect.same("all children", Maps.proof(flat, 10, 29, true), Shape.inner(
                Maps.leaf(0, 5).out(), Maps.leaf(10, 20).out(), Maps.leaf(30, 40).out()).tokens());
    }
}
