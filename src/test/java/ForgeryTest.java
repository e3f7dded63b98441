/**
 * Proofs that no map has made, each with the digest that comes out for it: so only the rule that is
 * looked at can refuse it (promises 13 and 14).
 */
public final class ForgeryTest {
    private static final Shape ONE = Shape.leaf(1, 10, 2, 20);
    private static final Shape THREE = Shape.leaf(3, 30, 4, 40);
    private static final Shape FIVE = Shape.leaf(5, 50, 6, 60);

    private ForgeryTest() {
    }

    public static void main(String[] args) {
        rightOnes();
        rootLeafSizes();
        otherLeafSizes();
        innerSizes();
        sizesThatAreTold();
        kinds();
        tokensUsed();
        depth();
        keysRise();
        keysOutOfBounds();
        toldCounts();
        countsWrap();
        leftOutOrNot();
        spansOfTold();
        spansOfFirstAndLast();
        unevenDepth();
        Expect.finish();
    }

    private static int check(int fan, Shape proof, int a, int b) {
        return Maps.withProof(fan, proof.tokens()).check(proof.digest(), a, b);
    }

    private static int count(int fan, Shape proof, int a, int b) {
        return Maps.withProof(fan, proof.tokens()).count(proof.digest(), a, b);
    }

    private static void rightOnes() {
        Shape two = Shape.inner(ONE, THREE);
        Expect.same("two leaves", check(3, two, 2, 3), 2);
        Expect.same("two leaves, count", count(3, two, 2, 3), 2);
        WitnessedMap map = Maps.withProof(3, two.tokens());
        map.check(two.digest(), 2, 3);
        Expect.same("row's value", map.row(1, 1), 30);
        Expect.same("another digest", map.check(two.digest() ^ 1, 2, 3), -1);
        Expect.same("another digest, count", map.count(two.digest() ^ 1, 2, 3), -1);
        Expect.same("the map's digest", map.check(map.root(), 2, 3), -1);
    }

    private static void rootLeafSizes() {
        Shape four = Shape.leaf(1, 1, 2, 2, 3, 3, 4, 4);
        Shape six = Shape.leaf(1, 1, 2, 2, 3, 3, 4, 4, 5, 5, 6, 6);
        Expect.same("a root without entries", check(3, Shape.leaf(), 0, 9), 0);
        Expect.same("a root without entries, count", count(3, Shape.leaf(), 0, 9), 0);
        Expect.same("one entry", check(3, Shape.leaf(1, 1), 0, 9), 1);
        Expect.same("F entries", check(4, four, 0, 9), 4);
        Expect.same("F + 1 entries", check(3, four, 0, 9), -1);
        Expect.same("F + 1 entries, count", count(3, four, 0, 9), -1);
        Expect.same("F + 1 entries", check(5, six, 0, 9), -1);
    }

    private static void otherLeafSizes() {
        Expect.same("one entry, below LOW", check(5, Shape.inner(Shape.leaf(1, 1), FIVE), 0, 9), 3);
        int[] empty = {2, 2, 1, 2, 1, 10, 2, 20, 1, 0};
        for (int least : new int[] {0, 1, 2, 3}) {
            int digest = Shape.inner(ONE, Shape.out(least, Shape.leaf().digest(), 0)).digest();
            Expect.same("a leaf without entries", Maps.withProof(3, empty).check(digest, 0, 9), -1);
            Expect.same("a leaf without entries", Maps.withProof(3, empty).count(digest, 0, 9), -1);
        }
        Shape four = Shape.leaf(3, 3, 4, 4, 5, 5, 6, 6);
        Expect.same("F + 1 in a leaf", check(3, Shape.inner(ONE, four), 0, 9), -1);
        Expect.same("F in a leaf", check(4, Shape.inner(ONE, four), 0, 9), 6);
    }

    private static void innerSizes() {
        Expect.same("an inner root with one", check(3, Shape.inner(ONE), 0, 9), -1);
        Expect.same("an inner root with one, count", count(3, Shape.inner(ONE), 0, 9), -1);
        Expect.same("an inner root with none", check(3, Shape.inner(), 0, 9), -1);
        Expect.same("another inner with one", check(3, Shape.inner(Shape.inner(ONE), THREE), 0, 9), 4);
        Shape four = Shape.inner(ONE, THREE, FIVE, Shape.leaf(7, 7));
        Expect.same("F children", check(4, four, 0, 9), 7);
        Expect.same("F + 1 children", check(3, four, 0, 9), -1);
        Shape below = Shape.inner(four, Shape.leaf(8, 8));
        Expect.same("F children below", check(4, below, 0, 9), 8);
        Expect.same("F + 1 children below", check(3, below, 0, 9), -1);
        int[] none = {2, 2, 1, 2, 1, 10, 2, 20, 2, 0};
        Expect.same("another inner with none", Maps.withProof(3, none).check(
                Shape.inner(ONE, Shape.out(0, Shape.inner().digest(), 0)).digest(), 0, 9), -1);
    }

    private static void sizesThatAreTold() {
        Shape two = Shape.inner(ONE, THREE);
        for (int size : new int[] {-1, 0, 1, 3, 4, 1 << 30, Integer.MIN_VALUE, Integer.MAX_VALUE}) {
            WitnessedMap map = Maps.withProof(4, two.tokens());
            map.alter(1, size);
            Expect.same("the root's size " + size, map.check(two.digest(), 2, 3), -1);
            map = Maps.withProof(4, two.tokens());
            map.alter(3, size);
            Expect.same("a leaf's size " + size, map.count(two.digest(), 2, 3), -1);
        }
    }

    private static void kinds() {
        Shape two = Shape.inner(ONE, THREE);
        for (int kind : new int[] {-1, 0, 3, Integer.MIN_VALUE, Integer.MAX_VALUE}) {
            WitnessedMap map = Maps.withProof(4, two.tokens());
            map.alter(0, kind);
            Expect.same("the root's kind " + kind, map.check(two.digest(), 2, 3), -1);
            map = Maps.withProof(4, two.tokens());
            map.alter(2, kind);
            Expect.same("a child's kind " + kind, map.check(two.digest(), 2, 3), -1);
        }
        Shape out = Shape.out(1, 77, 5);
        Expect.same("a root left out", check(3, out, 8, 9), -1);
        Expect.same("a root left out, count", count(3, out, 8, 9), -1);
        Expect.same("a root left out, within", count(3, out, -20000, 20000), -1);
    }

    private static void tokensUsed() {
        Shape two = Shape.inner(ONE, THREE.out());
        int[] tokens = two.tokens();
        Expect.same("all tokens", check(3, two, 1, 2), 2);
        for (int length = 0; length < tokens.length; length++) {
            int[] fewer = java.util.Arrays.copyOf(tokens, length);
            Expect.same("only " + length, Maps.withProof(3, fewer).check(two.digest(), 1, 2), -1);
            Expect.same("only " + length, Maps.withProof(3, fewer).count(two.digest(), 1, 2), -1);
        }
        int[] more = java.util.Arrays.copyOf(tokens, tokens.length + 1);
        Expect.same("one more", Maps.withProof(3, more).check(two.digest(), 1, 2), -1);
        Expect.same("one more", Maps.withProof(3, more).count(two.digest(), 1, 2), -1);
    }

    /** A node with inner nodes above it that have no other child. */
    private static Shape chain(Shape lowest, int above) {
        Shape shape = lowest;
        for (int i = 0; i < above; i++) {
            shape = Shape.inner(shape);
        }
        return shape;
    }

    private static void depth() {
        Shape last = Shape.leaf(7, 70);
        Expect.same("six deep", check(3, Shape.inner(chain(ONE, 4), last), 0, 9), 3);
        Expect.same("seven deep", check(3, Shape.inner(chain(ONE, 5), last), 0, 9), -1);
        Expect.same("seven deep, count", count(3, Shape.inner(chain(ONE, 5), last), 0, 9), -1);
        Expect.same("far too deep", check(3, Shape.inner(chain(ONE, 60), last), 0, 9), -1);
        // Of 3 to 4 a count shows the node above both, as it has 5 and 6 too, and leaves both out.
        Shape both = Shape.inner(THREE.out(), FIVE.out());
        Shape six = Shape.inner(ONE.out(), chain(both, 3), last.out());
        Expect.same("left out six deep", count(3, six, 3, 4), 2);
        Shape seven = Shape.inner(ONE.out(), chain(both, 4), last.out());
        Expect.same("left out seven deep", count(3, seven, 3, 4), -1);
    }

    private static void keysRise() {
        Expect.same("equal keys in a leaf", check(3, Shape.leaf(1, 1, 1, 1), 0, 9), -1);
        Expect.same("falling keys in a leaf", check(3, Shape.leaf(2, 1, 1, 1), 0, 9), -1);
        Expect.same("equal keys in leaves", check(3, Shape.inner(ONE, Shape.leaf(2, 2)), 0, 9), -1);
        Expect.same("falling keys in leaves", check(3, Shape.inner(THREE, ONE), 0, 9), -1);
        Expect.same("an entry as the least key told behind",
                check(3, Shape.inner(Shape.leaf(1, 1, 5, 5), FIVE.out()), 0, 4), -1);
        Expect.same("an entry above the least key told behind",
                check(3, Shape.inner(Shape.leaf(1, 1, 9, 9), FIVE.out()), 0, 4), -1);
        Expect.same("an entry below the least key told behind",
                check(3, Shape.inner(Shape.leaf(1, 1, 4, 9), FIVE.out()), 0, 4), 2);
        Expect.same("an entry as the least key told before",
                check(3, Shape.inner(ONE.out(), Shape.leaf(1, 1)), 5, 9), -1);
        Expect.same("an entry above the least key told before",
                check(3, Shape.inner(ONE.out(), Shape.leaf(2, 1)), 5, 9), 0);
        Expect.same("equal least keys told",
                check(3, Shape.inner(ONE, FIVE.out(), FIVE.out()), 1, 2), -1);
        Expect.same("falling least keys told",
                check(3, Shape.inner(ONE, FIVE.out(), THREE.out()), 1, 2), -1);
    }

    private static void keysOutOfBounds() {
        int least = Integer.MIN_VALUE;
        int largest = Integer.MAX_VALUE;
        Shape wide = Shape.leaf(least, 1, 0, 2, largest, 3);
        Expect.same("keys of all ints", check(3, wide, least, largest), 3);
        Expect.same("keys of all ints, count", count(3, wide, least, largest), 3);
        Shape ends = Shape.inner(Shape.leaf(least, 1), Shape.leaf(0, 2), Shape.leaf(largest, 3));
        Expect.same("leaves of all ints", check(3, ends, least, largest), 3);
        Shape middle = Shape.inner(
                Shape.leaf(least, 1), Shape.leaf(0, 2).out(), Shape.leaf(largest, 3));
        Expect.same("the first and the last have no bounds", count(3, middle, least, largest), 3);
        Expect.same("nothing out of bounds is left out within", count(3, Shape.inner(
                Shape.out(least, 1, 5), Shape.out(0, 2, 5)), least, largest), -1);
    }

    private static void toldCounts() {
        for (int told : new int[] {1, 2, 60, 61, 100000, Integer.MAX_VALUE}) {
            Shape proof = Shape.inner(ONE, Shape.out(5, 7, told));
            Expect.same("count told " + told, check(3, proof, 1, 2), 2);
            Expect.same("count told " + told, count(3, proof, 0, 2), 2);
        }
        for (int told : new int[] {0, -1, Integer.MIN_VALUE}) {
            Shape proof = Shape.inner(ONE, Shape.out(5, 7, told));
            Expect.same("count told " + told, check(3, proof, 1, 2), -1);
            Expect.same("count told " + told, count(3, proof, 0, 2), -1);
        }
    }

    private static void countsWrap() {
        Shape proof = Shape.inner(ONE, Shape.out(3, 7, Integer.MAX_VALUE), FIVE);
        Expect.same("counts wrap", count(3, proof, 2, 5), Integer.MIN_VALUE + 1);
        Shape below = Shape.inner(
                Shape.inner(Shape.leaf(1, 1), Shape.out(3, 7, Integer.MAX_VALUE)), Shape.leaf(5, 5));
        Expect.same("counts wrap below", count(3, below, 1, 5), Integer.MIN_VALUE + 1);
        Expect.same("out and within", count(3, Shape.inner(
                Shape.out(1, 1, 100), Shape.out(3, 3, 7), Shape.out(5, 5, 100)), 3, 4), 7);
    }

    private static void leftOutOrNot() {
        Expect.same("none left out that should be", check(3, Shape.inner(ONE, THREE), 3, 4), -1);
        Expect.same("left out as should be", check(3, Shape.inner(ONE.out(), THREE), 3, 4), 2);
        Expect.same("left out that should not be", check(3, Shape.inner(ONE.out(), THREE), 2, 4), -1);
        Expect.same("all left out", check(3, Shape.inner(ONE.out(), THREE.out()), 2, 4), -1);
        Shape shown = Shape.inner(ONE, THREE, FIVE);
        Shape within = Shape.inner(ONE, THREE.out(), FIVE);
        Expect.same("rows need what is within", check(3, within, 2, 5), -1);
        Expect.same("rows have what is within", check(3, shown, 2, 5), 4);
        Expect.same("a count leaves out what is within", count(3, within, 2, 5), 4);
        Expect.same("a count does not show what is within", count(3, shown, 2, 5), -1);
        Shape inner = Shape.inner(Shape.inner(ONE.out(), THREE.out()), FIVE);
        Expect.same("an inner child that should be left out", check(3, inner, 5, 6), -1);
        Shape outer = Shape.inner(Shape.inner(ONE, THREE).out(), FIVE);
        Expect.same("an inner child left out", check(3, outer, 5, 6), 2);
    }

    private static void spansOfTold() {
        Shape told = Shape.inner(ONE.out(), Shape.out(3, 8, 2), Shape.out(9, 9, 1));
        Expect.same("a told span up to the next", count(3, told, 3, 8), 2);
        Expect.same("a told span that is not all in it", count(3, told, 3, 7), -1);
        Shape shown = Shape.inner(ONE.out(), Shape.out(3, 8, 2), Shape.leaf(9, 9));
        Expect.same("a told span up to the next, shown", count(3, shown, 3, 9), 3);
        Expect.same("shown though not in it", count(3, shown, 3, 8), -1);
        Shape last = Shape.inner(ONE.out(), Shape.leaf(3, 3, 7, 7), Shape.out(9, 9, 1));
        Expect.same("up to the next that is told", check(3, last, 8, 8), 0);
        Expect.same("up to the next that is told, from 4", check(3, last, 4, 8), 1);
        Expect.same("the next that is told is in it", check(3, last, 4, 9), -1);
        Shape nested = Shape.inner(
                Shape.inner(ONE.out(), Shape.leaf(3, 3)), Shape.inner(Shape.out(9, 9, 1), Shape.leaf(12, 12)));
        Expect.same("up to a least key told below", check(3, nested, 5, 12), -1);
        Shape right = Shape.inner(
                Shape.inner(ONE.out(), Shape.leaf(3, 3)), Shape.inner(Shape.leaf(9, 9), Shape.leaf(12, 12)));
        Expect.same("up to a least key shown below", check(3, right, 8, 12), 2);
        Expect.same("from there on the span is the next one's", check(3, right, 9, 12), -1);
    }

    private static void spansOfFirstAndLast() {
        Shape first = Shape.inner(ONE, THREE.out());
        Expect.same("the first begins anywhere", check(3, first, -70, -60), 0);
        Expect.same("the first is never within", count(3, first, -20000, 2), 2);
        Shape last = Shape.inner(ONE.out(), THREE);
        Expect.same("the last ends anywhere", check(3, last, 70, 80), 0);
        Expect.same("the last is never within", count(3, last, 3, 20000), 2);
        Shape lower = Shape.inner(Shape.inner(ONE, THREE.out()), Shape.inner(FIVE, Shape.leaf(9, 9)).out());
        Expect.same("the first's first begins anywhere", check(3, lower, -70, -60), 0);
        Shape higher = Shape.inner(
                Shape.inner(ONE, THREE).out(), Shape.inner(FIVE.out(), Shape.leaf(9, 9)));
        Expect.same("the last's last ends anywhere", check(3, higher, 70, 80), 0);
        Shape ends = Shape.inner(
                Shape.inner(ONE.out(), THREE.out()), Shape.inner(FIVE, Shape.leaf(9, 9).out()));
        Expect.same("a last one ends where its parent does", count(3, ends, 3, 5), 3);
        Expect.same("a last one ends where its parent does", count(3, ends, 3, 4), -1);
    }

    private static void unevenDepth() {
        Shape uneven = Shape.inner(ONE, Shape.inner(THREE, Shape.inner(FIVE)));
        Expect.same("leaves lie where they like", check(3, uneven, 0, 9), 6);
    }
}
