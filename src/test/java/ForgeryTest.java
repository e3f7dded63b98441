import java.util.Arrays;
import java.util.List;

/**
 * What the document's terms say of checking: a test for each sentence, with proofs that no map has
 * made. Each comes with the digest that comes out for it, so only the rule looked at can refuse it.
 */
public final class ForgeryTest {
    private static final int LEAST = Integer.MIN_VALUE;
    private static final int LARGEST = Integer.MAX_VALUE;

    private static final Shape ONE = Shape.leaf(1, 10, 2, 20);
    private static final Shape THREE = Shape.leaf(3, 30, 4, 40);
    private static final Shape FIVE = Shape.leaf(5, 50, 6, 60);

    private ForgeryTest() {
    }

    public static void main(String[] args) {
        Expect.sentence("goes by its tokens alone", ForgeryTest::tokensAlone);
        Expect.sentence("how deep leaves lie .. not asked", ForgeryTest::unevenDepth);
        Expect.sentence("LOW .. not asked", ForgeryTest::belowLow);
        Expect.sentence("bounds of keys are not asked", ForgeryTest::keysOutOfBounds);
        Expect.sentence("it must be of that form", ForgeryTest::kinds);
        Expect.sentence("it must be of that form", ForgeryTest::sizesThatDoNotFit);
        Expect.sentence("it must be of that form", ForgeryTest::tokensMissing);
        Expect.sentence("all tokens used", ForgeryTest::tokensUsed);
        Expect.sentence("sizes 0 .. F for a root that is a leaf", ForgeryTest::rootLeafSizes);
        Expect.sentence("1 .. F for other leaves", ForgeryTest::otherLeafSizes);
        Expect.sentence("2 .. F for an inner root", ForgeryTest::innerRootSizes);
        Expect.sentence("1 .. F for other inner nodes", ForgeryTest::otherInnerSizes);
        Expect.sentence("nodes nested at most 6 deep (the root is one", ForgeryTest::depth);
        Expect.sentence("and what is left out counts, too)", ForgeryTest::depthOfLeftOut);
        Expect.sentence("the keys that are in it in order .. rise from the left", ForgeryTest::keysRise);
        Expect.sentence("the least keys that are told for what is left out, rise from the left",
                ForgeryTest::toldKeysRise);
        Expect.sentence("counts that are told are at least 1", ForgeryTest::toldCounts);
        Expect.sentence("each child is left out just as it should be", ForgeryTest::leftOutForRows);
        Expect.sentence("each child is left out just as it should be", ForgeryTest::leftOutForCounts);
        Expect.sentence("by the spans that the proof shows", ForgeryTest::spansOfTold);
        Expect.sentence("by the spans that the proof shows", ForgeryTest::spansOfFirstAndLast);
        Expect.sentence("the digest that comes out for the root is the one asked for", ForgeryTest::digests);
        Expect.sentence("the ROWS are the entries with keys from a to b", ForgeryTest::rows);
        Expect.sentence("for a count their number and the counts told of what is left out within",
                ForgeryTest::toldWithin);
        Expect.sentence("counts are added as ints are", ForgeryTest::countsWrap);
        Expect.finish();
    }

    private static int check(int fan, Shape proof, int a, int b) {
        return Maps.withProof(fan, proof.tokens()).check(proof.digest(), a, b);
    }

    private static int count(int fan, Shape proof, int a, int b) {
        return Maps.withProof(fan, proof.tokens()).count(proof.digest(), a, b);
    }

    /** Rows and a count of 0 to 9: the proofs are the same if no child lies between the first and the last. */
    private static void both(String what, int fan, Shape proof, int due) {
        Expect.same(what, check(fan, proof, 0, 9), due);
        Expect.same(what + ", count", count(fan, proof, 0, 9), due);
    }

    private static void tokensAlone() {
        Shape two = Shape.inner(ONE, THREE);
        WitnessedMap map = Maps.withProof(3, two.tokens());
        Expect.same("a proof of a tree that the map has not", map.check(two.digest(), 2, 3), 2);
        Expect.same("the map's digest", map.check(map.root(), 2, 3), -1);
        map = Maps.withProof(3, two.tokens());
        for (int key = 1; key <= 60; key++) {
            map.remove(key);
        }
        Expect.same("the map without entries", map.count(two.digest(), 2, 3), 2);
    }

    private static void unevenDepth() {
        both("a leaf higher up behind", 3, Shape.inner(Shape.inner(ONE), THREE), 4);
        both("a leaf higher up in front", 3, Shape.inner(ONE, Shape.inner(THREE)), 4);
        Expect.same("three depths", check(3, Shape.inner(ONE, Shape.inner(THREE, Shape.inner(FIVE))), 0, 9), 6);
    }

    private static void belowLow() {
        both("leaves with one entry", 5, Shape.inner(Shape.leaf(1, 1), Shape.leaf(2, 2)), 2);
        both("inner nodes with one child", 5, Shape.inner(Shape.inner(ONE), Shape.inner(THREE)), 4);
    }

    private static void keysOutOfBounds() {
        Shape outside = Shape.inner(Shape.leaf(-10000, 1, 1, 1), Shape.leaf(10000, 1));
        Expect.same("just out of them", check(3, outside, -10000, 10000), 3);
        Expect.same("just out of them, count", count(3, outside, -10000, 10000), 3);
        Shape wide = Shape.leaf(LEAST, 1, 0, 2, LARGEST, 3);
        Expect.same("keys of all ints", check(3, wide, LEAST, LARGEST), 3);
        Expect.same("keys of all ints, count", count(3, wide, LEAST, LARGEST), 3);
        Expect.same("the least int", check(3, wide, LEAST, LEAST), 1);
        Expect.same("the largest int", check(3, wide, LARGEST, LARGEST), 1);
        Shape ends = Shape.inner(Shape.leaf(LEAST, 1), Shape.leaf(0, 2), Shape.leaf(LARGEST, 3));
        Expect.same("leaves of all ints", check(3, ends, LEAST, LARGEST), 3);
        Shape told = Shape.inner(ONE, Shape.out(LARGEST, 1, 5));
        Expect.same("the largest int told", check(3, told, LEAST, LARGEST - 1), 2);
        Expect.same("the largest int told, asked for", check(3, told, LEAST, LARGEST), -1);
        Shape toldLeast = Shape.inner(Shape.out(LEAST, 1, 5), ONE);
        Expect.same("the least int told", check(3, toldLeast, 1, 2), 2);
        Expect.same("the least int told, asked for", check(3, toldLeast, LEAST, 2), -1);
    }

    private static void kinds() {
        Shape two = Shape.inner(ONE, THREE);
        for (int kind : new int[] {-1, 0, 1, 3, 4, LEAST, LARGEST}) {
            WitnessedMap map = Maps.withProof(4, two.tokens());
            map.alter(0, kind);
            Expect.same("the root's kind " + kind, map.check(two.digest(), 2, 3), -1);
        }
        for (int kind : new int[] {-1, 0, 2, 3, 4, LEAST, LARGEST}) {
            WitnessedMap map = Maps.withProof(4, two.tokens());
            map.alter(2, kind);
            Expect.same("a child's kind " + kind, map.check(two.digest(), 2, 3), -1);
            Expect.same("a child's kind " + kind + ", count", map.count(two.digest(), 2, 3), -1);
        }
        // With the digest that comes out if the kind is taken as it is, or as a leaf's.
        for (int kind : new int[] {-1, 0, 3}) {
            int[] leaf = {kind, 1, 5, 50};
            int digest = Shape.digestOf(List.of(kind, 1, 5, 50));
            Expect.same("a leaf of kind " + kind, Maps.withProof(4, leaf).check(digest, 0, 9), -1);
            int asLeaf = Shape.digestOf(List.of(1, 1, 5, 50));
            Expect.same("a leaf of kind " + kind, Maps.withProof(4, leaf).check(asLeaf, 0, 9), -1);
        }
        Shape out = Shape.out(1, 77, 5);
        Expect.same("a root left out", check(3, out, 8, 9), -1);
        Expect.same("a root left out, count", count(3, out, 8, 9), -1);
        Expect.same("a root left out, within", count(3, out, LEAST, LARGEST), -1);
    }

    private static void sizesThatDoNotFit() {
        Shape two = Shape.inner(ONE, THREE);
        // Sizes whose tokens, two or more for each, wrap to few or none when ints are multiplied.
        for (int size : new int[] {-1, 0, 1, 3, 4, 1 << 30, LEAST, LARGEST}) {
            WitnessedMap map = Maps.withProof(4, two.tokens());
            map.alter(1, size);
            Expect.same("the root's size " + size, map.check(two.digest(), 2, 3), -1);
            map = Maps.withProof(4, two.tokens());
            map.alter(3, size);
            Expect.same("a leaf's size " + size, map.count(two.digest(), 2, 3), -1);
        }
    }

    private static void tokensMissing() {
        Shape two = Shape.inner(ONE, THREE.out());
        int[] tokens = two.tokens();
        Expect.same("none missing", check(3, two, 1, 2), 2);
        for (int length = 0; length < tokens.length; length++) {
            int[] fewer = Arrays.copyOf(tokens, length);
            Expect.same("only " + length, Maps.withProof(3, fewer).check(two.digest(), 1, 2), -1);
            Expect.same("only " + length, Maps.withProof(3, fewer).count(two.digest(), 1, 2), -1);
        }
        Shape shown = Shape.inner(ONE, THREE);
        int[] all = shown.tokens();
        for (int length = 0; length < all.length; length++) {
            int[] fewer = Arrays.copyOf(all, length);
            Expect.same("shown, only " + length, Maps.withProof(3, fewer).check(shown.digest(), 2, 3), -1);
        }
        // What is trimmed away is not there, though it was there before.
        WitnessedMap map = Maps.upTo(3, 10);
        int length = map.prove(4, 4, false);
        map.trim(length - 1);
        Expect.same("the last trimmed away", map.check(map.root(), 4, 4), -1);
    }

    private static void tokensUsed() {
        Shape two = Shape.inner(ONE, THREE.out());
        for (int token : new int[] {0, 1, 2}) {
            int[] more = Arrays.copyOf(two.tokens(), two.tokens().length + 1);
            more[more.length - 1] = token;
            Expect.same("one more", Maps.withProof(3, more).check(two.digest(), 1, 2), -1);
            Expect.same("one more, count", Maps.withProof(3, more).count(two.digest(), 0, 2), -1);
        }
        Expect.same("a leaf without entries, one more", Maps.withProof(3, 1, 0, 0).check(0, 1, 2), -1);
        Expect.same("a leaf without entries, none more", Maps.withProof(3, 1, 0).check(0, 1, 2), 0);
        Expect.same("a second root", Maps.withProof(3, 1, 0, 1, 0).check(0, 1, 2), -1);
    }

    // Sizes.

    private static Shape leafOf(int size) {
        int[] keys = new int[size];
        for (int i = 0; i < size; i++) {
            keys[i] = i + 1;
        }
        return Maps.leaf(keys);
    }

    private static void rootLeafSizes() {
        for (int fan = 3; fan <= 5; fan++) {
            for (int size = 0; size <= fan; size++) {
                both("a root with " + size + " of " + fan, fan, leafOf(size), size);
            }
            both("a root with F + 1", fan, leafOf(fan + 1), -1);
            both("a root with F + 2", fan, leafOf(fan + 2), -1);
        }
    }

    private static void otherLeafSizes() {
        for (int fan = 3; fan <= 5; fan++) {
            for (int size = 1; size <= fan; size++) {
                both("a leaf with " + size, fan, Shape.inner(leafOf(size), Shape.leaf(9, 9)), size + 1);
            }
            both("a leaf with F + 1", fan, Shape.inner(leafOf(fan + 1), Shape.leaf(9, 9)), -1);
        }
        int[] behind = {2, 2, 1, 2, 1, 10, 2, 20, 1, 0};
        int[] before = {2, 2, 1, 0, 1, 2, 1, 10, 2, 20};
        int[] between = {2, 3, 1, 2, 1, 10, 2, 20, 1, 0, 1, 2, 3, 30, 4, 40};
        // Whatever least key one might take such a leaf to have, it is not right.
        for (int least : new int[] {0, 1, 2, 3, 4}) {
            Shape none = Shape.out(least, Shape.leaf().digest(), 0);
            noLeafWithoutEntries("behind", behind, Shape.inner(ONE, none).digest());
            noLeafWithoutEntries("before", before, Shape.inner(none, ONE).digest());
            noLeafWithoutEntries("between", between, Shape.inner(ONE, none, THREE).digest());
        }
    }

    private static void noLeafWithoutEntries(String where, int[] tokens, int digest) {
        Expect.same("a leaf without entries " + where, Maps.withProof(3, tokens).check(digest, 0, 9), -1);
        Expect.same("a leaf without entries " + where, Maps.withProof(3, tokens).count(digest, 0, 9), -1);
    }

    /** An inner node whose children are leaves with one entry each, from a key on. */
    private static Shape innerOf(int size, int firstKey) {
        Shape inner = Shape.inner();
        for (int i = 0; i < size; i++) {
            inner.children.add(Maps.leaf(firstKey + i));
        }
        return inner;
    }

    private static void innerRootSizes() {
        for (int fan = 3; fan <= 5; fan++) {
            both("none", fan, Shape.inner(), -1);
            both("one leaf", fan, innerOf(1, 1), -1);
            both("one inner node", fan, Shape.inner(innerOf(2, 1)), -1);
            for (int size = 2; size <= fan; size++) {
                Expect.same("root of " + size, check(fan, innerOf(size, 1), 1, size), size);
            }
            both("two", fan, innerOf(2, 1), 2);
            Expect.same("root of F + 1", check(fan, innerOf(fan + 1, 1), 1, fan + 1), -1);
            Expect.same("root of F + 2", check(fan, innerOf(fan + 2, 1), 1, fan + 2), -1);
        }
    }

    private static void otherInnerSizes() {
        for (int fan = 3; fan <= 5; fan++) {
            for (int size = 1; size <= fan; size++) {
                Shape proof = Shape.inner(innerOf(size, 1), Shape.leaf(9, 9));
                Expect.same("inner of " + size, check(fan, proof, 1, 9), size + 1);
            }
            Shape tooMany = Shape.inner(innerOf(fan + 1, 1), Shape.leaf(9, 9));
            Expect.same("inner of F + 1", check(fan, tooMany, 1, 9), -1);
        }
        int[] none = {2, 2, 1, 2, 1, 10, 2, 20, 2, 0};
        for (int least : new int[] {0, 1, 2, 3}) {
            int digest = Shape.inner(ONE, Shape.out(least, Shape.inner().digest(), 0)).digest();
            Expect.same("another inner with none", Maps.withProof(3, none).check(digest, 0, 9), -1);
            Expect.same("another inner with none", Maps.withProof(3, none).count(digest, 0, 9), -1);
        }
    }

    // Depth.

    /** A node with inner nodes above it that have no other child. */
    private static Shape chain(Shape lowest, int above) {
        Shape shape = lowest;
        for (int i = 0; i < above; i++) {
            shape = Shape.inner(shape);
        }
        return shape;
    }

    private static void depth() {
        Shape last = Shape.leaf(7, 70);
        both("five deep", 3, Shape.inner(chain(ONE, 3), last), 3);
        both("six deep", 3, Shape.inner(chain(ONE, 4), last), 3);
        both("seven deep", 3, Shape.inner(chain(ONE, 5), last), -1);
        both("seven deep behind", 3, Shape.inner(Shape.leaf(0, 0), chain(ONE, 5)), -1);
        both("six deep behind", 3, Shape.inner(Shape.leaf(0, 0), chain(ONE, 4)), 3);
        both("far too deep", 3, Shape.inner(chain(ONE, 60), last), -1);
    }

    private static void depthOfLeftOut() {
        // Of 3 to 4 a count shows the node above both, as it has 5 and 6 too, and leaves both out.
        Shape last = Shape.leaf(7, 70);
        Shape both = Shape.inner(THREE.out(), FIVE.out());
        Expect.same("six deep", count(3, Shape.inner(ONE.out(), chain(both, 3), last.out()), 3, 4), 2);
        Expect.same("seven deep", count(3, Shape.inner(ONE.out(), chain(both, 4), last.out()), 3, 4), -1);
        Shape beside = Shape.inner(ONE, THREE.out());
        Expect.same("six deep beside a leaf", check(3, Shape.inner(chain(beside, 3), last.out()), 1, 2), 2);
        Expect.same("seven deep beside a leaf", check(3, Shape.inner(chain(beside, 4), last.out()), 1, 2), -1);
    }

    // Keys and counts.

    private static void keysRise() {
        both("equal keys in a leaf", 3, Shape.leaf(1, 1, 1, 1), -1);
        both("falling keys in a leaf", 3, Shape.leaf(2, 1, 1, 1), -1);
        both("keys one apart in a leaf", 3, Shape.leaf(1, 1, 2, 1), 2);
        both("equal keys in leaves", 3, Shape.inner(ONE, Shape.leaf(2, 2)), -1);
        both("falling keys in leaves", 3, Shape.inner(THREE, ONE), -1);
        both("keys one apart in leaves", 3, Shape.inner(ONE, THREE), 4);
        both("falling within the last leaf", 3, Shape.inner(ONE, Shape.leaf(4, 4, 3, 3)), -1);
        // These fall, though their difference as ints is above 0.
        Expect.same("from the largest int to the least",
                check(3, Shape.leaf(LARGEST, 1, LEAST, 1), LEAST, LARGEST), -1);
        Expect.same("from the least int to the largest",
                check(3, Shape.leaf(LEAST, 1, LARGEST, 1), LEAST, LARGEST), 2);
    }

    private static void toldKeysRise() {
        Expect.same("an entry as the least key told behind",
                check(3, Shape.inner(Shape.leaf(1, 1, 5, 5), FIVE.out()), 0, 4), -1);
        Expect.same("an entry above the least key told behind",
                check(3, Shape.inner(Shape.leaf(1, 1, 9, 9), FIVE.out()), 0, 4), -1);
        Expect.same("an entry below the least key told behind",
                check(3, Shape.inner(Shape.leaf(1, 1, 4, 9), FIVE.out()), 0, 4), 2);
        Expect.same("an entry as the least key told before",
                check(3, Shape.inner(ONE.out(), Shape.leaf(1, 1)), 5, 9), -1);
        Expect.same("an entry above the least key told before",
                check(3, Shape.inner(ONE.out(), Shape.leaf(2, 1)), 5, 9), 0);
        Expect.same("equal least keys told", check(3, Shape.inner(ONE, FIVE.out(), FIVE.out()), 1, 2), -1);
        Expect.same("falling least keys told", check(3, Shape.inner(ONE, FIVE.out(), THREE.out()), 1, 2), -1);
        Expect.same("least keys told one apart",
                check(3, Shape.inner(ONE, Shape.out(5, 5, 1), Shape.out(6, 6, 1)), 1, 2), 2);
    }

    private static void toldCounts() {
        for (int told : new int[] {1, 2, 60, 61, 100000, LARGEST}) {
            Shape proof = Shape.inner(ONE, Shape.out(5, 7, told));
            Expect.same("told " + told, check(3, proof, 1, 2), 2);
            Expect.same("told " + told, count(3, proof, 0, 2), 2);
        }
        for (int told : new int[] {0, -1, LEAST}) {
            Shape proof = Shape.inner(ONE, Shape.out(5, 7, told));
            Expect.same("told " + told, check(3, proof, 1, 2), -1);
            Expect.same("told " + told, count(3, proof, 0, 2), -1);
            Shape within = Shape.inner(ONE, Shape.out(3, 7, told), FIVE);
            Expect.same("told within " + told, count(3, within, 2, 5), -1);
        }
    }

    // Spans.

    private static void leftOutForRows() {
        Expect.same("shown that should not be", check(3, Shape.inner(ONE, THREE), 3, 4), -1);
        Expect.same("left out as should be", check(3, Shape.inner(ONE.out(), THREE), 3, 4), 2);
        Expect.same("left out that should not be", check(3, Shape.inner(ONE.out(), THREE), 2, 4), -1);
        Expect.same("all left out", check(3, Shape.inner(ONE.out(), THREE.out()), 2, 4), -1);
        Expect.same("left out though within", check(3, Shape.inner(ONE, THREE.out(), FIVE), 2, 5), -1);
        Expect.same("shown though within", check(3, Shape.inner(ONE, THREE, FIVE), 2, 5), 4);
        Shape inner = Shape.inner(Shape.inner(ONE.out(), THREE.out()), FIVE);
        Expect.same("an inner child shown that should not be", check(3, inner, 5, 6), -1);
        Shape outer = Shape.inner(Shape.inner(ONE, THREE).out(), FIVE);
        Expect.same("an inner child left out", check(3, outer, 5, 6), 2);
        Expect.same("an inner child left out that should not be", check(3, outer, 4, 6), -1);
    }

    private static void leftOutForCounts() {
        Expect.same("left out within", count(3, Shape.inner(ONE, THREE.out(), FIVE), 2, 5), 4);
        Expect.same("shown though within", count(3, Shape.inner(ONE, THREE, FIVE), 2, 5), -1);
        Expect.same("left out with no number", count(3, Shape.inner(ONE.out(), THREE), 3, 4), 2);
        Expect.same("shown with no number", count(3, Shape.inner(ONE, THREE), 3, 4), -1);
        Expect.same("left out with some numbers", count(3, Shape.inner(ONE, THREE.out(), FIVE.out()), 2, 3), -1);
        Expect.same("shown with some numbers", count(3, Shape.inner(ONE, THREE, FIVE.out()), 2, 3), 2);
        Shape inner = Shape.inner(ONE, Shape.inner(THREE.out(), FIVE.out()), Shape.leaf(8, 8));
        Expect.same("an inner child shown though within", count(3, inner, 2, 8), -1);
        Shape outer = Shape.inner(ONE, Shape.inner(THREE, FIVE).out(), Shape.leaf(8, 8));
        Expect.same("an inner child left out within", count(3, outer, 2, 8), 6);
    }

    private static void spansOfTold() {
        Shape told = Shape.inner(ONE.out(), Shape.out(3, 8, 2), Shape.out(9, 9, 1));
        Expect.same("a told span up to the next", count(3, told, 3, 8), 2);
        Expect.same("a told span that is not all in it", count(3, told, 3, 7), -1);
        Expect.same("a told span that begins before it", count(3, told, 4, 8), -1);
        Shape shown = Shape.inner(ONE.out(), Shape.out(3, 8, 2), Shape.leaf(9, 9));
        Expect.same("a told span up to the next, shown", count(3, shown, 3, 9), 3);
        Expect.same("shown though not in it", count(3, shown, 3, 8), -1);
        Shape last = Shape.inner(ONE.out(), Shape.leaf(3, 3, 7, 7), Shape.out(9, 9, 1));
        Expect.same("up to the next that is told", check(3, last, 8, 8), 0);
        Expect.same("up to the next that is told, from 4", check(3, last, 4, 8), 1);
        Expect.same("the next that is told is in it", check(3, last, 4, 9), -1);
        Shape nested = Shape.inner(
                Shape.inner(ONE.out(), Shape.leaf(3, 3)), Shape.inner(Shape.out(9, 9, 1), Shape.leaf(12, 12)));
        Expect.same("up to a least key told below", check(3, nested, 5, 12), -1);
        Shape right = Shape.inner(
                Shape.inner(ONE.out(), Shape.leaf(3, 3)), Shape.inner(Shape.leaf(9, 9), Shape.leaf(12, 12)));
        Expect.same("up to a least key shown below", check(3, right, 8, 12), 2);
        Expect.same("from there on the span is the next one's", check(3, right, 9, 12), -1);
    }

    private static void spansOfFirstAndLast() {
        Shape first = Shape.inner(ONE, THREE.out());
        Expect.same("the first begins anywhere", check(3, first, -70, -60), 0);
        Expect.same("the first begins with the least int", check(3, first, LEAST, LEAST), 0);
        Expect.same("the first is never within", count(3, first, LEAST, 2), 2);
        Shape last = Shape.inner(ONE.out(), THREE);
        Expect.same("the last ends anywhere", check(3, last, 70, 80), 0);
        Expect.same("the last ends with the largest int", check(3, last, LARGEST, LARGEST), 0);
        Expect.same("the last is never within", count(3, last, 3, LARGEST), 2);
        Shape lower = Shape.inner(Shape.inner(ONE, THREE.out()), Shape.inner(FIVE, Shape.leaf(9, 9)).out());
        Expect.same("the first's first begins anywhere", check(3, lower, -70, -60), 0);
        Shape higher = Shape.inner(
                Shape.inner(ONE, THREE).out(), Shape.inner(FIVE.out(), Shape.leaf(9, 9)));
        Expect.same("the last's last ends anywhere", check(3, higher, 70, 80), 0);
        Shape ends = Shape.inner(
                Shape.inner(ONE.out(), THREE.out()), Shape.inner(FIVE, Shape.leaf(9, 9).out()));
        Expect.same("a last one ends where its parent does", count(3, ends, 3, 5), 3);
        Expect.same("a last one ends where its parent does", count(3, ends, 3, 4), -1);
        Shape middle = Shape.inner(Shape.leaf(LEAST, 1), Shape.leaf(0, 2).out(), Shape.leaf(LARGEST, 3));
        Expect.same("nor within all ints", count(3, middle, LEAST, LARGEST), 3);
        Expect.same("so neither may be left out there", count(3, Shape.inner(
                Shape.out(LEAST, 1, 5), Shape.out(0, 2, 5)), LEAST, LARGEST), -1);
    }

    // What comes out.

    private static void digests() {
        Shape two = Shape.inner(ONE, THREE);
        WitnessedMap map = Maps.withProof(3, two.tokens());
        for (int bit = 0; bit < 32; bit++) {
            Expect.same("another digest", map.check(two.digest() ^ 1 << bit, 2, 3), -1);
            Expect.same("another digest, count", map.count(two.digest() ^ 1 << bit, 2, 3), -1);
        }
        Expect.same("the one", map.check(two.digest(), 2, 3), 2);
        Shape told = Shape.inner(ONE, Shape.out(5, 77, 3));
        for (int i = 3; i < told.tokens().length; i++) {
            map = Maps.withProof(3, told.tokens());
            map.alter(i, map.token(i) ^ 1 << 20);
            Expect.same("token " + i + " altered", map.check(told.digest(), 1, 2), -1);
        }
        Expect.same("none altered", check(3, told, 1, 2), 2);
    }

    private static void rows() {
        Shape leaf = Shape.leaf(10, 1, 20, 2, 30, 3);
        Expect.same("both ends", check(3, leaf, 10, 30), 3);
        Expect.same("one past the first", check(3, leaf, 11, 30), 2);
        Expect.same("one before the last", check(3, leaf, 10, 29), 2);
        Expect.same("between", check(3, leaf, 11, 19), 0);
        WitnessedMap map = Maps.withProof(3, Shape.inner(ONE, THREE).tokens());
        map.check(Shape.inner(ONE, THREE).digest(), 2, 3);
        int[] due = {2, 20, 3, 30, 0, 0};
        for (int i = 0; i < 3; i++) {
            Expect.same("key " + i, map.row(i, 0), due[2 * i]);
            Expect.same("value " + i, map.row(i, 1), due[2 * i + 1]);
        }
    }

    private static void toldWithin() {
        Shape told = Shape.inner(Shape.out(1, 1, 100), Shape.out(3, 3, 7), Shape.out(5, 5, 100));
        Expect.same("only what is within", count(3, told, 3, 4), 7);
        Shape shown = Shape.inner(ONE, Shape.out(3, 7, 1000), FIVE);
        Expect.same("with entries that are in it", count(3, shown, 2, 5), 1002);
        Expect.same("with entries that are not", count(3, shown, 3, 5), -1);
        Shape below = Shape.inner(Shape.inner(ONE, Shape.out(3, 7, 30)), Shape.inner(Shape.out(5, 7, 40), FIVE));
        Expect.same("keys that do not rise", count(3, below, 2, 5), -1);
        Shape nested = Shape.inner(
                Shape.inner(ONE, Shape.out(3, 7, 30)), Shape.inner(Shape.out(4, 7, 40), FIVE));
        Expect.same("told below", count(3, nested, 2, 5), 72);
    }

    private static void countsWrap() {
        Shape proof = Shape.inner(ONE, Shape.out(3, 7, LARGEST), FIVE);
        Expect.same("past the largest", count(3, proof, 2, 5), LEAST + 1);
        Shape below = Shape.inner(Shape.inner(Shape.leaf(1, 1), Shape.out(3, 7, LARGEST)), Shape.leaf(5, 5));
        Expect.same("past the largest below", count(3, below, 1, 5), LEAST + 1);
        Shape twice = Shape.inner(ONE, Shape.out(3, 7, LARGEST), Shape.out(4, 7, LARGEST), FIVE);
        Expect.same("all round", count(4, twice, 2, 5), 0);
        // The count of an inner node goes into its parent's digest, and wraps there as well.
        Shape outside = Shape.inner(
                Shape.inner(ONE, Shape.out(3, 7, LARGEST), Shape.out(4, 7, LARGEST)), FIVE.out());
        Expect.same("in what is not asked for", check(3, outside, 1, 2), 2);
    }
}
