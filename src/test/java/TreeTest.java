import java.util.ArrayList;
import java.util.List;
import java.util.Set;
import java.util.TreeSet;

/** What the document's terms say of the tree and of digests: a test for each sentence, at its edges. */
public final class TreeTest {
    private TreeTest() {
    }

    public static void main(String[] args) {
        Expect.sentence("The MAP has at most 60 ENTRIES", TreeTest::entriesAtMost);
        Expect.sentence("a KEY (-9999 .. 9999)", TreeTest::keysAtTheEnds);
        Expect.sentence("a VALUE (an int)", TreeTest::valuesAtTheEnds);
        Expect.sentence("A LEAF has entries by rising keys", TreeTest::entriesRise);
        Expect.sentence("one that is not the root has LOW .. F of them", TreeTest::sizesOfOthers);
        Expect.sentence("LOW being (F + 1) / 2 rounded down", TreeTest::low);
        Expect.sentence("the root has at most F", TreeTest::rootAtMost);
        Expect.sentence("an inner root at least 2", TreeTest::innerRootAtLeast);
        Expect.sentence("a tree without entries is a leaf without any", TreeTest::noEntries);
        Expect.sentence("All leaves are equally deep.", TreeTest::leavesEquallyDeep);
        Expect.sentence("The LEAST key of a node is that of its first entry, or its first child's",
                TreeTest::leastKeys);
        Expect.sentence("the COUNT is how many entries are in it and below it", TreeTest::counts);
        Expect.sentence("one goes down to the last child whose least key is not above it",
                TreeTest::goesToTheLastNotAbove);
        Expect.sentence("or the first one", TreeTest::goesToTheFirst);
        Expect.sentence("In the leaf the value is replaced", TreeTest::valueReplaced);
        Expect.sentence("or the entry comes where it belongs", TreeTest::entryInPlace);
        Expect.sentence("A node with F + 1 is SPLIT: the first (F + 2) / 2, rounded down, stay",
                TreeTest::splitsLeaves);
        Expect.sentence("A node with F + 1 is SPLIT", TreeTest::splitsInnerNodes);
        Expect.sentence("the others go into a new node right behind it", TreeTest::splitsRightBehind);
        Expect.sentence("a root that is split gets a new root above with both", TreeTest::splitsTheRoot);
        Expect.sentence("REMOVING a key (found by going down likewise)", TreeTest::removingGoesDown);
        Expect.sentence("the entry goes from its leaf", TreeTest::entryGoes);
        Expect.sentence("A node that is not the root with fewer than LOW", TreeTest::fewerThanLow);
        Expect.sentence("if the node before it under the same parent has more than LOW, "
                + "that one's last one comes to its front", TreeTest::beforeLends);
        Expect.sentence("under the same parent", TreeTest::onlyTheSameParent);
        Expect.sentence("else if the node behind it has more than LOW, "
                + "that one's first one comes to its end", TreeTest::behindLends);
        Expect.sentence("else all of it goes to the end of the node before it, if there is one",
                TreeTest::joinsBefore);
        Expect.sentence("else all of the node behind it comes to its own end", TreeTest::joinsBehind);
        Expect.sentence("the emptied node goes from the parent", TreeTest::emptiedNodeGoes);
        Expect.sentence("An inner root with one child goes, and that is the root.", TreeTest::rootGoes);
        Expect.sentence("h = (h xor x) * 16777619 (wraps)", TreeTest::digestWraps);
        Expect.sentence("h = h xor (h >>> 15)", TreeTest::digestShifts);
        Expect.sentence("Of a leaf: that of 1, its size, and key and value of each entry, in order",
                TreeTest::digestOfLeaf);
        Expect.sentence("of an inner node: that of 2, its size, "
                + "and the least key, digest and count of each child, in order", TreeTest::digestOfInner);
        Expect.finish();
    }

    private static WitnessedMap removed(WitnessedMap map, int... keys) {
        for (int key : keys) {
            Expect.same("remove " + key, map.remove(key), true);
        }
        return map;
    }

    private static WitnessedMap also(WitnessedMap map, int... keys) {
        for (int key : keys) {
            Expect.same("put " + key, map.put(key, 10 * key), 1);
        }
        return map;
    }

    /** Two inner nodes with two leaves each, all of them with LOW. */
    private static WitnessedMap eight() {
        return Maps.of(3, 10, 20, 30, 40, 50, 60, 70, 80);
    }

    // What a tree is.

    private static void entriesAtMost() {
        for (int fan = 3; fan <= 5; fan++) {
            WitnessedMap map = Maps.upTo(fan, 59);
            Expect.same("the 60th", map.put(60, 600), 1);
            Expect.same("the 61st", map.put(61, 610), 0);
            Expect.same("size", map.size(), 60);
            Expect.same("within", map.within(-9999, 9999), 60);
        }
    }

    private static void keysAtTheEnds() {
        WitnessedMap map = Maps.of(3, -9999, 9999, -9998, 9998);
        Expect.tree("both ends", map, Shape.inner(Maps.leaf(-9999, -9998), Maps.leaf(9998, 9999)));
        Expect.same("get the least", map.get(-9999), -99990);
        Expect.same("get the largest", map.get(9999), 99990);
        Expect.same("remove the least", map.remove(-9999), true);
        Expect.same("remove the largest", map.remove(9999), true);
        Expect.tree("without them", map, Maps.leaf(-9998, 9998));
    }

    private static void valuesAtTheEnds() {
        WitnessedMap map = new WitnessedMap(5);
        int[] values = {Integer.MIN_VALUE, -1, 0, 1, Integer.MAX_VALUE};
        for (int i = 0; i < values.length; i++) {
            Expect.same("put", map.put(i, values[i]), 1);
        }
        map.prove(0, 4, false);
        Expect.same("check", map.check(map.root(), 0, 4), 5);
        for (int i = 0; i < values.length; i++) {
            Expect.same("get", map.get(i), values[i]);
            Expect.same("token", map.token(3 + 2 * i), values[i]);
            Expect.same("row", map.row(i, 1), values[i]);
        }
        Expect.same("an entry with 0 is there", map.put(2, 0), 2);
        Expect.same("and can be removed", map.remove(2), true);
    }

    private static void entriesRise() {
        Expect.tree("put from above", Maps.of(3, 3, 2, 1), Maps.leaf(1, 2, 3));
        Expect.tree("below and above 0", Maps.of(5, 9999, 1, -1, -9999, 0),
                Maps.leaf(-9999, -1, 0, 1, 9999));
    }

    /** The sizes of the nodes but the root, and how deep the leaves lie, in a tree's tokens. */
    private static final class Walk {
        final int[] tokens;
        final Set<Integer> sizes = new TreeSet<>();
        final Set<Integer> leafDepths = new TreeSet<>();
        int at = 0;

        Walk(int[] tokens) {
            this.tokens = tokens;
            below(1);
        }

        private void below(int depth) {
            int kind = tokens[at];
            int size = tokens[at + 1];
            at += 2;
            if (depth > 1) {
                sizes.add(size);
            }
            if (kind == Shape.LEAF) {
                leafDepths.add(depth);
                at += 2 * size;
            }
            for (int i = 0; kind == Shape.INNER && i < size; i++) {
                below(depth + 1);
            }
        }
    }

    /** The trees of a map that is filled in some order and emptied in another. */
    private static List<Walk> fillAndEmpty(int fan, int step) {
        List<Walk> walks = new ArrayList<>();
        for (int calls = 0; calls <= 120; calls++) {
            // Each tree is of a new object, so that none is asked more than 512 times.
            WitnessedMap map = new WitnessedMap(fan);
            for (int i = 0; i < calls; i++) {
                if (i < 60) {
                    map.put(i * step % 61, i);
                } else {
                    map.remove((i - 60) * (step + 4) % 61);
                }
            }
            walks.add(new Walk(Maps.wholeTree(map)));
        }
        return walks;
    }

    private static void sizesOfOthers() {
        int[] least = {2, 2, 3};
        for (int fan = 3; fan <= 5; fan++) {
            Set<Integer> seen = new TreeSet<>();
            for (int step : new int[] {1, 7, 18, 60}) {
                for (Walk walk : fillAndEmpty(fan, step)) {
                    seen.addAll(walk.sizes);
                }
            }
            Set<Integer> due = new TreeSet<>();
            for (int size = least[fan - 3]; size <= fan; size++) {
                due.add(size);
            }
            Expect.same("sizes with F of " + fan, seen.toString(), due.toString());
        }
    }

    private static void low() {
        Expect.tree("2 of 3 are enough", removed(Maps.upTo(3, 5), 3),
                Shape.inner(Maps.leaf(1, 2), Maps.leaf(4, 5)));
        Expect.tree("1 of 3 is not", removed(Maps.upTo(3, 4), 3), Maps.leaf(1, 2, 4));
        Expect.tree("2 of 4 are enough", removed(Maps.upTo(4, 5), 1),
                Shape.inner(Maps.leaf(2, 3), Maps.leaf(4, 5)));
        Expect.tree("1 of 4 is not", removed(Maps.upTo(4, 5), 1, 5), Maps.leaf(2, 3, 4));
        Expect.tree("3 of 5 are enough", removed(Maps.upTo(5, 7), 4),
                Shape.inner(Maps.leaf(1, 2, 3), Maps.leaf(5, 6, 7)));
        Expect.tree("2 of 5 are not", removed(Maps.upTo(5, 6), 4), Maps.leaf(1, 2, 3, 5, 6));
    }

    private static void rootAtMost() {
        Expect.tree("3 entries of 3", Maps.upTo(3, 3), Maps.leaf(1, 2, 3));
        Expect.tree("4 entries of 4", Maps.upTo(4, 4), Maps.leaf(1, 2, 3, 4));
        Expect.tree("5 entries of 5", Maps.upTo(5, 5), Maps.leaf(1, 2, 3, 4, 5));
        Expect.tree("3 children of 3", Maps.upTo(3, 7),
                Shape.inner(Maps.leaf(1, 2), Maps.leaf(3, 4), Maps.leaf(5, 6, 7)));
        for (int fan = 3; fan <= 5; fan++) {
            int most = 0;
            for (int size = 0; size <= 60; size++) {
                most = Math.max(most, Maps.wholeTree(Maps.upTo(fan, size))[1]);
            }
            Expect.same("the largest root of " + fan, most, fan);
        }
    }

    private static void innerRootAtLeast() {
        Expect.tree("an inner root with 2", removed(Maps.upTo(5, 7), 7),
                Shape.inner(Maps.leaf(1, 2, 3), Maps.leaf(4, 5, 6)));
        Expect.tree("and then a leaf", removed(Maps.upTo(5, 7), 7, 6), Maps.leaf(1, 2, 3, 4, 5));
        Expect.tree("a root that is a leaf may have 1", removed(Maps.upTo(5, 6), 6, 5, 4, 3, 2), Maps.leaf(1));
    }

    private static void noEntries() {
        for (int fan = 3; fan <= 5; fan++) {
            Expect.tree("never any", new WitnessedMap(fan), Shape.leaf());
            Expect.tree("one, removed", removed(Maps.upTo(fan, 1), 1), Shape.leaf());
            WitnessedMap map = Maps.upTo(fan, 60);
            for (int key = 60; key >= 1; key--) {
                Expect.same("remove down", map.remove(key), true);
            }
            Expect.tree("60, removed", map, Shape.leaf());
            Expect.tree("one again", also(map, 3), Maps.leaf(3));
        }
    }

    private static void leavesEquallyDeep() {
        for (int fan = 3; fan <= 5; fan++) {
            for (int step : new int[] {1, 18, 60}) {
                for (Walk walk : fillAndEmpty(fan, step)) {
                    Expect.same("how many depths", walk.leafDepths.size(), 1);
                }
            }
        }
    }

    /** The map with its leaf of 10, or the node above that, left out: what is told of it is token i on. */
    private static int told(WitnessedMap map, int a, int i) {
        map.prove(a, a, false);
        Expect.same("left out", map.token(i), Shape.OUT);
        return map.token(i + 1);
    }

    private static void leastKeys() {
        Expect.same("of a leaf", told(Maps.of(3, 10, 20, 30, 40), 30, 2), 10);
        Expect.same("of a leaf with a new first", told(also(Maps.of(3, 10, 20, 30, 40), 5), 30, 2), 5);
        Expect.same("of a leaf whose first went", told(removed(Maps.of(3, 10, 20, 30, 40, 15), 10), 30, 2), 15);
        Expect.same("of an inner node", told(eight(), 50, 2), 10);
        Expect.same("of an inner node with a new first", told(also(eight(), -9999), 50, 2), -9999);
        Expect.same("of an inner node whose first went", told(removed(also(eight(), 15), 10), 50, 2), 15);
    }

    private static int toldCount(WitnessedMap map, int a) {
        map.prove(a, a, false);
        Expect.same("left out", map.token(2), Shape.OUT);
        return map.token(5);
    }

    private static void counts() {
        Expect.same("of a leaf", toldCount(Maps.of(3, 10, 20, 30, 40), 30), 2);
        Expect.same("of a full leaf", toldCount(Maps.of(3, 10, 20, 30, 40, 5), 30), 3);
        Expect.same("of an inner node", toldCount(eight(), 50), 4);
        Expect.same("of an inner node with one more", toldCount(also(eight(), 35), 50), 5);
        Expect.same("of an inner node with one less", toldCount(removed(also(eight(), 35), 40), 50), 4);
        Expect.same("of inner nodes below", toldCount(Maps.upTo(3, 20), 20), 8);
    }

    // Putting.

    private static void goesToTheLastNotAbove() {
        WitnessedMap map = Maps.of(3, 10, 20, 30, 40);
        map.put(30, 1);
        Expect.tree("the least key itself", map, Shape.inner(Maps.leaf(10, 20), Shape.leaf(30, 1, 40, 400)));
        Expect.tree("one below it", also(Maps.of(3, 10, 20, 30, 40), 29),
                Shape.inner(Maps.leaf(10, 20, 29), Maps.leaf(30, 40)));
        Expect.tree("one above it", also(Maps.of(3, 10, 20, 30, 40), 31),
                Shape.inner(Maps.leaf(10, 20), Maps.leaf(30, 31, 40)));
        Expect.tree("above all", also(Maps.of(3, 10, 20, 30, 40), 9999),
                Shape.inner(Maps.leaf(10, 20), Maps.leaf(30, 40, 9999)));
        Expect.tree("one below an inner node's least key", also(eight(), 49), Shape.inner(
                Shape.inner(Maps.leaf(10, 20), Maps.leaf(30, 40, 49)),
                Shape.inner(Maps.leaf(50, 60), Maps.leaf(70, 80))));
        Expect.tree("one above an inner node's least key", also(eight(), 51), Shape.inner(
                Shape.inner(Maps.leaf(10, 20), Maps.leaf(30, 40)),
                Shape.inner(Maps.leaf(50, 51, 60), Maps.leaf(70, 80))));
    }

    private static void goesToTheFirst() {
        Expect.tree("below all", also(Maps.of(3, 10, 20, 30, 40), 9),
                Shape.inner(Maps.leaf(9, 10, 20), Maps.leaf(30, 40)));
        Expect.tree("far below all", also(eight(), -9999), Shape.inner(
                Shape.inner(Maps.leaf(-9999, 10, 20), Maps.leaf(30, 40)),
                Shape.inner(Maps.leaf(50, 60), Maps.leaf(70, 80))));
    }

    private static void valueReplaced() {
        WitnessedMap map = Maps.upTo(3, 3);
        Expect.same("in a full leaf", map.put(3, 7), 2);
        Expect.tree("in a full leaf", map, Shape.leaf(1, 10, 2, 20, 3, 7));
        map = eight();
        Expect.same("at the front of an inner node", map.put(50, 7), 2);
        Expect.tree("at the front of an inner node", map, Shape.inner(
                Shape.inner(Maps.leaf(10, 20), Maps.leaf(30, 40)),
                Shape.inner(Shape.leaf(50, 7, 60, 600), Maps.leaf(70, 80))));
    }

    private static void entryInPlace() {
        Expect.tree("at the front", Maps.of(5, 4, 6, 3), Maps.leaf(3, 4, 6));
        Expect.tree("between", Maps.of(5, 4, 6, 5), Maps.leaf(4, 5, 6));
        Expect.tree("at the end", Maps.of(5, 4, 6, 7), Maps.leaf(4, 6, 7));
    }

    private static void splitsLeaves() {
        Expect.tree("2 of 4 stay", Maps.upTo(3, 4), Shape.inner(Maps.leaf(1, 2), Maps.leaf(3, 4)));
        Expect.tree("3 of 5 stay", Maps.upTo(4, 5), Shape.inner(Maps.leaf(1, 2, 3), Maps.leaf(4, 5)));
        Expect.tree("3 of 6 stay", Maps.upTo(5, 6), Shape.inner(Maps.leaf(1, 2, 3), Maps.leaf(4, 5, 6)));
        Expect.tree("the new one is among those that stay", Maps.of(3, 10, 20, 30, 5),
                Shape.inner(Maps.leaf(5, 10), Maps.leaf(20, 30)));
        Expect.tree("the new one is the last that stays", Maps.of(4, 10, 20, 30, 40, 25),
                Shape.inner(Maps.leaf(10, 20, 25), Maps.leaf(30, 40)));
    }

    private static void splitsInnerNodes() {
        Expect.tree("2 of 4 stay", Maps.upTo(3, 8), Shape.inner(
                Shape.inner(Maps.leaf(1, 2), Maps.leaf(3, 4)),
                Shape.inner(Maps.leaf(5, 6), Maps.leaf(7, 8))));
        // Each leaf of 4 that is split leaves three behind, so the fifth leaf comes with the 14th key.
        Expect.tree("3 of 5 stay", Maps.upTo(4, 14), Shape.inner(
                Shape.inner(Maps.leaf(1, 2, 3), Maps.leaf(4, 5, 6), Maps.leaf(7, 8, 9)),
                Shape.inner(Maps.leaf(10, 11, 12), Maps.leaf(13, 14))));
        Expect.tree("3 of 6 stay", Maps.upTo(5, 18), Shape.inner(
                Shape.inner(Maps.leaf(1, 2, 3), Maps.leaf(4, 5, 6), Maps.leaf(7, 8, 9)),
                Shape.inner(Maps.leaf(10, 11, 12), Maps.leaf(13, 14, 15), Maps.leaf(16, 17, 18))));
        Expect.tree("F are not split", Maps.upTo(3, 10), Shape.inner(
                Shape.inner(Maps.leaf(1, 2), Maps.leaf(3, 4)),
                Shape.inner(Maps.leaf(5, 6), Maps.leaf(7, 8), Maps.leaf(9, 10))));
    }

    private static void splitsRightBehind() {
        Expect.tree("a leaf that is not the last", Maps.of(3, 10, 20, 50, 60, 15, 12),
                Shape.inner(Maps.leaf(10, 12), Maps.leaf(15, 20), Maps.leaf(50, 60)));
        Expect.tree("an inner node that is not the last", also(eight(), 11, 12, 13, 14), Shape.inner(
                Shape.inner(Maps.leaf(10, 11), Maps.leaf(12, 13)),
                Shape.inner(Maps.leaf(14, 20), Maps.leaf(30, 40)),
                Shape.inner(Maps.leaf(50, 60), Maps.leaf(70, 80))));
    }

    private static void splitsTheRoot() {
        for (int fan = 3; fan <= 5; fan++) {
            int height = 1;
            for (int size = 0; size <= 60; size++) {
                WitnessedMap map = Maps.upTo(fan, size);
                if (map.height() > height) {
                    Expect.same("one higher", map.height(), height + 1);
                    int[] tokens = Maps.wholeTree(map);
                    Expect.same("a new root that is inner", tokens[0], Shape.INNER);
                    Expect.same("a new root with both", tokens[1], 2);
                    height++;
                }
            }
            Expect.same("the root was split", height > 2, true);
        }
    }

    // Removing.

    private static void removingGoesDown() {
        for (int fan = 3; fan <= 5; fan++) {
            for (int key = 1; key <= 60; key++) {
                WitnessedMap map = Maps.upTo(fan, 60);
                Expect.same("remove " + key + " of 60", map.remove(key), true);
                Expect.same("removed " + key + " of 60", map.within(key, key), 0);
            }
        }
        WitnessedMap map = eight();
        for (int key : new int[] {9, 29, 31, 49, 51, 69, 71, 81}) {
            Expect.same("remove " + key + ", beside a key", map.remove(key), false);
        }
        Expect.same("the least of an inner node", map.remove(50), true);
        Expect.same("the least of all", map.remove(10), true);
        Expect.same("the largest of all", map.remove(80), true);
        Expect.tree("what is left", map, Shape.inner(Maps.leaf(20, 30, 40), Maps.leaf(60, 70)));
    }

    private static void entryGoes() {
        Expect.tree("the first", removed(Maps.upTo(3, 3), 1), Maps.leaf(2, 3));
        Expect.tree("the middle", removed(Maps.upTo(3, 3), 2), Maps.leaf(1, 3));
        Expect.tree("the last", removed(Maps.upTo(3, 3), 3), Maps.leaf(1, 2));
        Expect.tree("an inner node's least", removed(also(eight(), 55), 50), Shape.inner(
                Shape.inner(Maps.leaf(10, 20), Maps.leaf(30, 40)),
                Shape.inner(Maps.leaf(55, 60), Maps.leaf(70, 80))));
        // With 30 gone its leaf begins with 35, so 30 would now be looked for before it.
        WitnessedMap map = removed(also(eight(), 35), 30);
        Expect.same("gone", map.remove(30), false);
        Expect.tree("put again, before", also(map, 30), Shape.inner(
                Shape.inner(Maps.leaf(10, 20, 30), Maps.leaf(35, 40)),
                Shape.inner(Maps.leaf(50, 60), Maps.leaf(70, 80))));
    }

    private static void fewerThanLow() {
        Expect.tree("a leaf with LOW stays, though before has more", removed(also(eight(), 15, 35), 35),
                Shape.inner(
                        Shape.inner(Maps.leaf(10, 15, 20), Maps.leaf(30, 40)),
                        Shape.inner(Maps.leaf(50, 60), Maps.leaf(70, 80))));
        Expect.tree("an inner node with LOW of 3 stays", removed(Maps.upTo(3, 10), 10), Shape.inner(
                Shape.inner(Maps.leaf(1, 2), Maps.leaf(3, 4)),
                Shape.inner(Maps.leaf(5, 6), Maps.leaf(7, 8, 9))));
        Expect.tree("an inner node with LOW of 5 stays", removed(Maps.upTo(5, 21), 21), Shape.inner(
                Shape.inner(Maps.leaf(1, 2, 3), Maps.leaf(4, 5, 6), Maps.leaf(7, 8, 9)),
                Shape.inner(Maps.leaf(10, 11, 12), Maps.leaf(13, 14, 15), Maps.leaf(16, 17, 18, 19, 20))));
        Expect.tree("a root that is a leaf stays", removed(Maps.upTo(5, 3), 3, 2), Maps.leaf(1));
        Expect.tree("an inner root stays", removed(Maps.upTo(5, 9), 9, 8), Shape.inner(
                Maps.leaf(1, 2, 3), Maps.leaf(4, 5, 6, 7)));
    }

    private static void beforeLends() {
        Expect.tree("a leaf of 3", removed(Maps.of(3, 1, 2, 5, 6, 3), 6),
                Shape.inner(Maps.leaf(1, 2), Maps.leaf(3, 5)));
        Expect.tree("a leaf of 4", removed(Maps.upTo(4, 5), 5),
                Shape.inner(Maps.leaf(1, 2), Maps.leaf(3, 4)));
        Expect.tree("a leaf of 5", removed(Maps.of(5, 1, 2, 3, 5, 6, 7, 4), 7),
                Shape.inner(Maps.leaf(1, 2, 3), Maps.leaf(4, 5, 6)));
        Expect.tree("before comes first", removed(Maps.of(3, 1, 2, 5, 6, 7, 8, 3, 9), 5),
                Shape.inner(Maps.leaf(1, 2), Maps.leaf(3, 6), Maps.leaf(7, 8, 9)));
        Expect.tree("an inner node", removed(also(eight(), 1, 2), 80), Shape.inner(
                Shape.inner(Maps.leaf(1, 2), Maps.leaf(10, 20)),
                Shape.inner(Maps.leaf(30, 40), Maps.leaf(50, 60, 70))));
        Expect.tree("an inner node of 4", removed(Maps.upTo(4, 14), 14, 13), Shape.inner(
                Shape.inner(Maps.leaf(1, 2, 3), Maps.leaf(4, 5, 6)),
                Shape.inner(Maps.leaf(7, 8, 9), Maps.leaf(10, 11, 12))));
    }

    private static void onlyTheSameParent() {
        Expect.tree("the leaf before has more, of another parent", removed(also(eight(), 45), 50),
                Shape.inner(Maps.leaf(10, 20), Maps.leaf(30, 40, 45), Maps.leaf(60, 70, 80)));
        Expect.tree("the leaf behind has more, of another parent", removed(also(eight(), 55), 40),
                Shape.inner(Maps.leaf(10, 20, 30), Maps.leaf(50, 55, 60), Maps.leaf(70, 80)));
    }

    private static void behindLends() {
        Expect.tree("a leaf of 3", removed(Maps.upTo(3, 5), 1),
                Shape.inner(Maps.leaf(2, 3), Maps.leaf(4, 5)));
        Expect.tree("a leaf of 5", removed(Maps.upTo(5, 7), 1),
                Shape.inner(Maps.leaf(2, 3, 4), Maps.leaf(5, 6, 7)));
        Expect.tree("before has LOW", removed(Maps.of(3, 1, 2, 5, 6, 7, 8, 9), 5),
                Shape.inner(Maps.leaf(1, 2), Maps.leaf(6, 7), Maps.leaf(8, 9)));
        Expect.tree("an inner node", removed(Maps.upTo(3, 10), 1), Shape.inner(
                Shape.inner(Maps.leaf(2, 3, 4), Maps.leaf(5, 6)),
                Shape.inner(Maps.leaf(7, 8), Maps.leaf(9, 10))));
    }

    private static void joinsBefore() {
        Expect.tree("a leaf between two with LOW", removed(Maps.upTo(3, 6), 3),
                Shape.inner(Maps.leaf(1, 2, 4), Maps.leaf(5, 6)));
        Expect.tree("the last leaf", removed(Maps.upTo(3, 6), 5),
                Shape.inner(Maps.leaf(1, 2), Maps.leaf(3, 4, 6)));
        Expect.tree("a leaf of 5", removed(Maps.upTo(5, 9), 5),
                Shape.inner(Maps.leaf(1, 2, 3, 4, 6), Maps.leaf(7, 8, 9)));
        Expect.tree("an inner node between two with LOW", removed(Maps.upTo(3, 12), 5), Shape.inner(
                Shape.inner(Maps.leaf(1, 2), Maps.leaf(3, 4), Maps.leaf(6, 7, 8)),
                Shape.inner(Maps.leaf(9, 10), Maps.leaf(11, 12))));
    }

    private static void joinsBehind() {
        Expect.tree("the first leaf", removed(Maps.upTo(3, 6), 1),
                Shape.inner(Maps.leaf(2, 3, 4), Maps.leaf(5, 6)));
        Expect.tree("the first leaf of 5", removed(Maps.upTo(5, 9), 2),
                Shape.inner(Maps.leaf(1, 3, 4, 5, 6), Maps.leaf(7, 8, 9)));
        Expect.tree("the first inner node", removed(Maps.upTo(3, 12), 2), Shape.inner(
                Shape.inner(Maps.leaf(1, 3, 4), Maps.leaf(5, 6), Maps.leaf(7, 8)),
                Shape.inner(Maps.leaf(9, 10), Maps.leaf(11, 12))));
    }

    private static void emptiedNodeGoes() {
        Expect.tree("from a root with three", removed(Maps.upTo(3, 6), 6),
                Shape.inner(Maps.leaf(1, 2), Maps.leaf(3, 4, 5)));
        Expect.tree("from an inner node, which then is below LOW", removed(Maps.upTo(3, 12), 12), Shape.inner(
                Shape.inner(Maps.leaf(1, 2), Maps.leaf(3, 4)),
                Shape.inner(Maps.leaf(5, 6), Maps.leaf(7, 8), Maps.leaf(9, 10, 11))));
    }

    private static void rootGoes() {
        Expect.tree("for a leaf", removed(Maps.upTo(3, 4), 4), Maps.leaf(1, 2, 3));
        Expect.tree("for an inner node", removed(Maps.upTo(3, 8), 8),
                Shape.inner(Maps.leaf(1, 2), Maps.leaf(3, 4), Maps.leaf(5, 6, 7)));
        Expect.tree("for an inner node of 5", removed(Maps.upTo(5, 18), 18), Shape.inner(Maps.leaf(1, 2, 3),
                Maps.leaf(4, 5, 6), Maps.leaf(7, 8, 9), Maps.leaf(10, 11, 12), Maps.leaf(13, 14, 15, 16, 17)));
    }

    // Digests.

    private static void digestWraps() {
        WitnessedMap map = new WitnessedMap(3);
        // By hand: 3 xor 1 is 2, times 16777619 is 33555238; that xor itself shifted, 1024, is 33556262.
        Expect.same("no wrap, a number that makes it 0", map.digest(3, 1, 33556262, 0), 0);
        // 256 * 16777619 is 2^32 + 103168, so 103168 is left; shifted by 15 that is 3.
        Expect.same("past all bits", map.digest(0, 256, 103168 ^ 3, 0), 0);
        Expect.same("past all bits, on", map.digest(0, 256, 103168 ^ 3, 1), 16777619 ^ (16777619 >>> 15));
        int odd = (int) (2147483647L * 16777619L);
        Expect.same("the largest int", map.digest(0, Integer.MAX_VALUE, odd ^ (odd >>> 15), 0), 0);
        int even = (int) (-2147483648L * 16777619L);
        Expect.same("the least int", map.digest(0, Integer.MIN_VALUE, even ^ (even >>> 15), 0), 0);
    }

    private static void digestShifts() {
        WitnessedMap map = new WitnessedMap(3);
        // 128 * 16777619 is -2147432064 as an int; its 17 upper bits as a number from 0 on are 65537.
        Expect.same("below 0, zeros come in", map.digest(0, 128, -2147432064 ^ 65537, 0), 0);
        // -16777619 has 17 upper bits too: as a number from 0 on, 130559.
        Expect.same("-1, zeros come in", map.digest(0, -1, -16777619 ^ 130559, 0), 0);
    }

    private static void digestOfLeaf() {
        Expect.same("without entries", new WitnessedMap(5).root(), Shape.digestOf(List.of(1, 0)));
        Expect.same("with one", Maps.of(5, 7).root(), Shape.digestOf(List.of(1, 1, 7, 70)));
        WitnessedMap map = new WitnessedMap(5);
        map.put(9999, Integer.MIN_VALUE);
        map.put(-9999, Integer.MAX_VALUE);
        Expect.same("with the ends", map.root(),
                Shape.digestOf(List.of(1, 2, -9999, Integer.MAX_VALUE, 9999, Integer.MIN_VALUE)));
    }

    private static void digestOfInner() {
        int first = Shape.digestOf(List.of(1, 2, 1, 10, 2, 20));
        int second = Shape.digestOf(List.of(1, 2, 3, 30, 4, 40));
        WitnessedMap map = Maps.upTo(3, 4);
        Expect.same("of leaves", map.root(), Shape.digestOf(List.of(2, 2, 1, first, 2, 3, second, 2)));
        map.put(4, 41);
        int changed = Shape.digestOf(List.of(1, 2, 3, 30, 4, 41));
        Expect.same("a value replaced", map.root(),
                Shape.digestOf(List.of(2, 2, 1, first, 2, 3, changed, 2)));
        map = Maps.upTo(3, 8);
        int third = Shape.digestOf(List.of(1, 2, 5, 50, 6, 60));
        int fourth = Shape.digestOf(List.of(1, 2, 7, 70, 8, 80));
        int left = Shape.digestOf(List.of(2, 2, 1, first, 2, 3, second, 2));
        int right = Shape.digestOf(List.of(2, 2, 5, third, 2, 7, fourth, 2));
        Expect.same("of inner nodes", map.root(), Shape.digestOf(List.of(2, 2, 1, left, 4, 5, right, 4)));
    }
}
