import java.util.List;

/** Each promise by itself: ordinary inputs, edges, and wrong inputs. */
public final class PromiseTest {
    private PromiseTest() {
    }

    public static void main(String[] args) {
        newObject();
        fanOutOfRange();
        putAnswers();
        putRefuses();
        putGoesDown();
        putSplits();
        putSplitsInner();
        removeAnswers();
        removeBorrows();
        removeJoins();
        removeInner();
        removeToNothing();
        getAnswers();
        sizeAnswers();
        heightAnswers();
        rootAnswers();
        withinAnswers();
        proveRows();
        proveCounts();
        proveSpansWithGaps();
        proveWithoutBounds();
        proveReplacesOrRefuses();
        tokenAnswers();
        alterAnswers();
        trimAnswers();
        checkAnswers();
        checkIsOfItsRange();
        countAnswers();
        rowAnswers();
        rowKeepsTheLastRightCheck();
        digestAnswers();
        Expect.finish();
    }

    private static void tree(String what, WitnessedMap map, Shape due) {
        Expect.same(what + ", tree", Maps.wholeTree(map), due.tokens());
        Expect.same(what + ", root", map.root(), due.digest());
        Expect.same(what + ", size", map.size(), due.count());
    }

    // Promise 1

    private static void newObject() {
        for (int fan = 3; fan <= 5; fan++) {
            WitnessedMap map = new WitnessedMap(fan);
            Expect.same("new, size", map.size(), 0);
            Expect.same("new, height", map.height(), 1);
            Expect.same("new, root", map.root(), Shape.leaf().digest());
            Expect.same("new, get", map.get(0), 0);
            Expect.same("new, token", map.token(0), 0);
            Expect.same("new, alter", map.alter(0, 1), false);
            Expect.same("new, trim 0", map.trim(0), true);
            Expect.same("new, trim 1", map.trim(1), false);
            Expect.same("new, check", map.check(map.root(), 0, 1), -1);
            Expect.same("new, count", map.count(map.root(), 0, 1), -1);
            Expect.same("new, row", map.row(0, 0), 0);
            Expect.same("new, row", map.row(0, 1), 0);
            Expect.same("new, within", map.within(-9999, 9999), 0);
            Expect.same("new, remove", map.remove(0), false);
        }
    }

    private static void fanOutOfRange() {
        for (int fan : new int[] {2, 6, 0, -1, 4, Integer.MIN_VALUE, Integer.MAX_VALUE}) {
            tree("fan " + fan, Maps.upTo(fan, 4), Maps.leaf(1, 2, 3, 4));
            tree("fan " + fan, Maps.upTo(fan, 5), Shape.inner(Maps.leaf(1, 2, 3), Maps.leaf(4, 5)));
        }
    }

    // Promise 2

    private static void putAnswers() {
        WitnessedMap map = new WitnessedMap(3);
        Expect.same("put new", map.put(7, 1), 1);
        Expect.same("put known", map.put(7, 2), 2);
        Expect.same("put known with the same", map.put(7, 2), 2);
        Expect.same("put, get", map.get(7), 2);
        Expect.same("put, size", map.size(), 1);
        Expect.same("put least key", map.put(-9999, Integer.MIN_VALUE), 1);
        Expect.same("put largest key", map.put(9999, Integer.MAX_VALUE), 1);
        tree("put", map, Shape.leaf(-9999, Integer.MIN_VALUE, 7, 2, 9999, Integer.MAX_VALUE));
    }

    private static void putRefuses() {
        WitnessedMap map = Maps.upTo(3, 59);
        for (int key : new int[] {10000, -10000, Integer.MAX_VALUE, Integer.MIN_VALUE}) {
            Expect.same("put " + key, map.put(key, 1), 0);
        }
        Expect.same("put the 60th", map.put(60, 600), 1);
        int root = map.root();
        Expect.same("put the 61st", map.put(61, 1), 0);
        Expect.same("put the 61st in front", map.put(0, 1), 0);
        Expect.same("refused, size", map.size(), 60);
        Expect.same("refused, root", map.root(), root);
        Expect.same("put known among 60", map.put(60, 5), 2);
        Expect.same("put known among 60, get", map.get(60), 5);
        Expect.same("remove among 60", map.remove(30), true);
        Expect.same("put again", map.put(61, 1), 1);
    }

    private static void putGoesDown() {
        WitnessedMap map = Maps.of(3, 10, 20, 30, 40);
        map.put(25, 250);
        tree("between leaves", map, Shape.inner(Maps.leaf(10, 20, 25), Maps.leaf(30, 40)));
        map = Maps.of(3, 10, 20, 30, 40);
        map.put(30, 1);
        tree("at a least key", map, Shape.inner(Maps.leaf(10, 20), Shape.leaf(30, 1, 40, 400)));
        map = Maps.of(3, 10, 20, 30, 40);
        map.put(5, 50);
        tree("below all", map, Shape.inner(Maps.leaf(5, 10, 20), Maps.leaf(30, 40)));
        map = Maps.of(3, 10, 20, 30, 40);
        map.put(99, 990);
        tree("above all", map, Shape.inner(Maps.leaf(10, 20), Maps.leaf(30, 40, 99)));
    }

    private static void putSplits() {
        tree("three of 3", Maps.upTo(3, 3), Maps.leaf(1, 2, 3));
        tree("four of 3", Maps.upTo(3, 4), Shape.inner(Maps.leaf(1, 2), Maps.leaf(3, 4)));
        tree("four of 4", Maps.upTo(4, 4), Maps.leaf(1, 2, 3, 4));
        tree("five of 4", Maps.upTo(4, 5), Shape.inner(Maps.leaf(1, 2, 3), Maps.leaf(4, 5)));
        tree("five of 5", Maps.upTo(5, 5), Maps.leaf(1, 2, 3, 4, 5));
        tree("six of 5", Maps.upTo(5, 6), Shape.inner(Maps.leaf(1, 2, 3), Maps.leaf(4, 5, 6)));
        tree("split in the middle", Maps.of(3, 10, 20, 50, 60, 15, 12),
                Shape.inner(Maps.leaf(10, 12), Maps.leaf(15, 20), Maps.leaf(50, 60)));
    }

    private static void putSplitsInner() {
        tree("eight of 3", Maps.upTo(3, 8), Shape.inner(
                Shape.inner(Maps.leaf(1, 2), Maps.leaf(3, 4)),
                Shape.inner(Maps.leaf(5, 6), Maps.leaf(7, 8))));
        tree("ten of 3", tenOfThree(), tenShape());
        // Each leaf that is split leaves three behind, so the fifth leaf comes with the 14th key.
        tree("14 of 4", Maps.upTo(4, 14), Shape.inner(
                Shape.inner(Maps.leaf(1, 2, 3), Maps.leaf(4, 5, 6), Maps.leaf(7, 8, 9)),
                Shape.inner(Maps.leaf(10, 11, 12), Maps.leaf(13, 14))));
    }

    private static WitnessedMap tenOfThree() {
        return Maps.upTo(3, 10);
    }

    private static Shape tenShape() {
        return Shape.inner(
                Shape.inner(Maps.leaf(1, 2), Maps.leaf(3, 4)),
                Shape.inner(Maps.leaf(5, 6), Maps.leaf(7, 8), Maps.leaf(9, 10)));
    }

    // Promise 3

    private static void removeAnswers() {
        WitnessedMap map = Maps.of(4, 1, 2, 3);
        Expect.same("remove", map.remove(2), true);
        Expect.same("remove again", map.remove(2), false);
        Expect.same("remove what never was", map.remove(9), false);
        Expect.same("remove below all", map.remove(Integer.MIN_VALUE), false);
        Expect.same("remove above all", map.remove(Integer.MAX_VALUE), false);
        tree("remove", map, Maps.leaf(1, 3));
    }

    private static void removeBorrows() {
        WitnessedMap map = Maps.of(3, 1, 2, 5, 6, 3);
        map.remove(6);
        tree("from before", map, Shape.inner(Maps.leaf(1, 2), Maps.leaf(3, 5)));
        map = Maps.of(3, 1, 2, 5, 6, 7);
        map.remove(1);
        tree("from behind", map, Shape.inner(Maps.leaf(2, 5), Maps.leaf(6, 7)));
        map = Maps.of(3, 1, 2, 5, 6, 7, 8, 3, 9);
        map.remove(5);
        tree("before comes first", map, Shape.inner(Maps.leaf(1, 2), Maps.leaf(3, 6), Maps.leaf(7, 8, 9)));
        map = Maps.of(3, 1, 2, 5, 6, 7, 8, 9);
        map.remove(5);
        tree("behind, before has LOW", map, Shape.inner(Maps.leaf(1, 2), Maps.leaf(6, 7), Maps.leaf(8, 9)));
        map = Maps.of(5, 1, 2, 3, 5, 6, 7);
        map.remove(6);
        tree("LOW of 5 is 3", map, Maps.leaf(1, 2, 3, 5, 7));
        map = Maps.upTo(4, 5);
        map.remove(1);
        tree("LOW of 4 is 2", map, Shape.inner(Maps.leaf(2, 3), Maps.leaf(4, 5)));
    }

    private static void removeJoins() {
        WitnessedMap map = Maps.upTo(3, 6);
        map.remove(3);
        tree("with before", map, Shape.inner(Maps.leaf(1, 2, 4), Maps.leaf(5, 6)));
        map = Maps.upTo(3, 6);
        map.remove(5);
        tree("the last with before", map, Shape.inner(Maps.leaf(1, 2), Maps.leaf(3, 4, 6)));
        map = Maps.upTo(3, 6);
        map.remove(1);
        tree("with behind", map, Shape.inner(Maps.leaf(2, 3, 4), Maps.leaf(5, 6)));
        map = Maps.upTo(3, 4);
        map.remove(4);
        tree("the root goes", map, Maps.leaf(1, 2, 3));
        Expect.same("the root goes, height", map.height(), 1);
    }

    private static void removeInner() {
        WitnessedMap map = Maps.upTo(3, 8);
        map.remove(8);
        tree("inner joined", map, Shape.inner(Maps.leaf(1, 2), Maps.leaf(3, 4), Maps.leaf(5, 6, 7)));
        Expect.same("inner joined, height", map.height(), 2);
        map = Maps.upTo(3, 8);
        map.remove(1);
        tree("inner joined with behind", map,
                Shape.inner(Maps.leaf(2, 3, 4), Maps.leaf(5, 6), Maps.leaf(7, 8)));
        map = tenOfThree();
        map.remove(1);
        tree("inner from behind", map, Shape.inner(
                Shape.inner(Maps.leaf(2, 3, 4), Maps.leaf(5, 6)),
                Shape.inner(Maps.leaf(7, 8), Maps.leaf(9, 10))));
        map = Maps.of(3, 10, 20, 30, 40, 50, 60, 70, 80, 1, 2);
        map.remove(80);
        tree("inner from before", map, Shape.inner(
                Shape.inner(Maps.leaf(1, 2), Maps.leaf(10, 20)),
                Shape.inner(Maps.leaf(30, 40), Maps.leaf(50, 60, 70))));
        map = tenOfThree();
        map.remove(5);
        tree("a least key goes", map, Shape.inner(
                Shape.inner(Maps.leaf(1, 2), Maps.leaf(3, 4)),
                Shape.inner(Maps.leaf(6, 7, 8), Maps.leaf(9, 10))));
        Expect.same("a least key goes, remove again", map.remove(5), false);
    }

    private static void removeToNothing() {
        for (int fan = 3; fan <= 5; fan++) {
            WitnessedMap map = Maps.upTo(fan, 60);
            for (int key = 60; key >= 1; key--) {
                Expect.same("remove down", map.remove(key), true);
            }
            tree("nothing left", map, Shape.leaf());
            Expect.same("nothing left, height", map.height(), 1);
            Expect.same("nothing left, put", map.put(3, 30), 1);
            tree("one again", map, Maps.leaf(3));
        }
    }

    // Promises 4 to 8

    private static void getAnswers() {
        WitnessedMap map = tenOfThree();
        for (int key = 1; key <= 10; key++) {
            Expect.same("get " + key, map.get(key), 10 * key);
        }
        for (int key : new int[] {0, 11, -10000, 10000, Integer.MIN_VALUE, Integer.MAX_VALUE}) {
            Expect.same("get " + key, map.get(key), 0);
        }
        map.put(4, -1);
        Expect.same("get replaced", map.get(4), -1);
        map.remove(4);
        Expect.same("get removed", map.get(4), 0);
    }

    private static void sizeAnswers() {
        WitnessedMap map = new WitnessedMap(3);
        for (int key = 1; key <= 60; key++) {
            map.put(key, 0);
            Expect.same("size", map.size(), key);
        }
        map.put(5, 9);
        Expect.same("size after a known key", map.size(), 60);
        map.remove(5);
        Expect.same("size after remove", map.size(), 59);
        map.remove(5);
        Expect.same("size after no remove", map.size(), 59);
    }

    private static void heightAnswers() {
        Expect.same("height of 3", Maps.upTo(3, 3).height(), 1);
        Expect.same("height of 4", Maps.upTo(3, 4).height(), 2);
        Expect.same("height of 7", Maps.upTo(3, 7).height(), 2);
        Expect.same("height of 8", Maps.upTo(3, 8).height(), 3);
        Expect.same("height of 16", Maps.upTo(3, 16).height(), 4);
        Expect.same("height of 31", Maps.upTo(3, 31).height(), 4);
        Expect.same("height of 32", Maps.upTo(3, 32).height(), 5);
        Expect.same("height of 60", Maps.upTo(3, 60).height(), 5);
    }

    private static void rootAnswers() {
        Expect.same("root of nothing", new WitnessedMap(5).root(), Shape.digestOf(List.of(1, 0)));
        Expect.same("root of one", Maps.of(5, 7).root(), Shape.digestOf(List.of(1, 1, 7, 70)));
        int first = Shape.digestOf(List.of(1, 2, 1, 10, 2, 20));
        int second = Shape.digestOf(List.of(1, 2, 3, 30, 4, 40));
        WitnessedMap map = Maps.upTo(3, 4);
        Expect.same("root of four", map.root(), Shape.digestOf(List.of(2, 2, 1, first, 2, 3, second, 2)));
        map.put(4, 41);
        int changed = Shape.digestOf(List.of(1, 2, 3, 30, 4, 41));
        Expect.same("root, a value replaced", map.root(),
                Shape.digestOf(List.of(2, 2, 1, first, 2, 3, changed, 2)));
    }

    private static void withinAnswers() {
        WitnessedMap map = tenOfThree();
        Expect.same("within", map.within(3, 7), 5);
        Expect.same("within one", map.within(4, 4), 1);
        Expect.same("within none", map.within(11, 20), 0);
        Expect.same("within, a above b", map.within(7, 3), 0);
        Expect.same("within all", map.within(Integer.MIN_VALUE, Integer.MAX_VALUE), 10);
        Expect.same("within, turned", map.within(Integer.MAX_VALUE, Integer.MIN_VALUE), 0);
        Expect.same("within up to", map.within(-50, 1), 1);
        Expect.same("within from", map.within(10, 50), 1);
    }

    // Promise 9

    private static void proveRows() {
        WitnessedMap map = tenOfThree();
        Shape left = Shape.inner(Maps.leaf(1, 2), Maps.leaf(3, 4));
        Shape right = Shape.inner(Maps.leaf(5, 6), Maps.leaf(7, 8), Maps.leaf(9, 10));
        Expect.same("rows 3 to 5", Maps.proof(map, 3, 5, false), Shape.inner(
                Shape.inner(Maps.leaf(1, 2).out(), Maps.leaf(3, 4)),
                Shape.inner(Maps.leaf(5, 6), Maps.leaf(7, 8).out(), Maps.leaf(9, 10).out())).tokens());
        Expect.same("rows 4", Maps.proof(map, 4, 4, false), Shape.inner(
                Shape.inner(Maps.leaf(1, 2).out(), Maps.leaf(3, 4)), right.out()).tokens());
        Expect.same("rows below all", Maps.proof(map, -7, -7, false), Shape.inner(
                Shape.inner(Maps.leaf(1, 2), Maps.leaf(3, 4).out()), right.out()).tokens());
        Expect.same("rows above all", Maps.proof(map, 70, 70, false), Shape.inner(
                left.out(),
                Shape.inner(Maps.leaf(5, 6).out(), Maps.leaf(7, 8).out(), Maps.leaf(9, 10))).tokens());
        Expect.same("rows 1 to 10", Maps.proof(map, 1, 10, false), tenShape().tokens());
        Expect.same("rows of a leaf", Maps.proof(Maps.upTo(3, 3), 70, 80, false),
                Maps.leaf(1, 2, 3).tokens());
        Expect.same("rows of nothing", Maps.proof(new WitnessedMap(3), 0, 0, false), new int[] {1, 0});
    }

    private static void proveCounts() {
        WitnessedMap map = tenOfThree();
        Shape left = Shape.inner(Maps.leaf(1, 2), Maps.leaf(3, 4));
        Expect.same("count 3 to 5", Maps.proof(map, 3, 5, true), Shape.inner(
                Shape.inner(Maps.leaf(1, 2).out(), Maps.leaf(3, 4).out()),
                Shape.inner(Maps.leaf(5, 6), Maps.leaf(7, 8).out(), Maps.leaf(9, 10).out())).tokens());
        Expect.same("count from 5", Maps.proof(map, 5, 20000, true), Shape.inner(left.out(),
                Shape.inner(Maps.leaf(5, 6).out(), Maps.leaf(7, 8).out(), Maps.leaf(9, 10))).tokens());
        Expect.same("count up to 6", Maps.proof(map, -20000, 6, true), Shape.inner(
                Shape.inner(Maps.leaf(1, 2), Maps.leaf(3, 4).out()),
                Shape.inner(Maps.leaf(5, 6).out(), Maps.leaf(7, 8).out(), Maps.leaf(9, 10).out())).tokens());
        Expect.same("count of a leaf", Maps.proof(Maps.upTo(3, 3), -70, 80, true),
                Maps.leaf(1, 2, 3).tokens());
        WitnessedMap three = Maps.upTo(3, 12);
        Expect.same("an inner node within", Maps.proof(three, 5, 8, true), Shape.inner(
                left.out(),
                Shape.inner(Maps.leaf(5, 6), Maps.leaf(7, 8)).out(),
                Shape.inner(Maps.leaf(9, 10), Maps.leaf(11, 12)).out()).tokens());
    }

    private static void proveSpansWithGaps() {
        WitnessedMap map = Maps.of(3, 0, 5, 10, 20, 30, 40);
        Shape first = Maps.leaf(0, 5);
        Shape middle = Maps.leaf(10, 20);
        Shape last = Maps.leaf(30, 40);
        Expect.same("rows in a gap", Maps.proof(map, 25, 28, false),
                Shape.inner(first.out(), middle, last.out()).tokens());
        Expect.same("rows up to a span's end", Maps.proof(map, 29, 29, false),
                Shape.inner(first.out(), middle, last.out()).tokens());
        Expect.same("rows at the next span", Maps.proof(map, 30, 30, false),
                Shape.inner(first.out(), middle.out(), last).tokens());
        Expect.same("rows between", Maps.proof(map, 9, 9, false),
                Shape.inner(first, middle.out(), last.out()).tokens());
        Expect.same("count of a whole span", Maps.proof(map, 10, 29, true),
                Shape.inner(first.out(), middle.out(), last.out()).tokens());
        Expect.same("count, one number less at the end", Maps.proof(map, 10, 28, true),
                Shape.inner(first.out(), middle, last.out()).tokens());
        Expect.same("count, one number less at the start", Maps.proof(map, 11, 29, true),
                Shape.inner(first.out(), middle, last.out()).tokens());
        Expect.same("count, one number more", Maps.proof(map, 9, 30, true),
                Shape.inner(first, middle.out(), last).tokens());
    }

    private static void proveWithoutBounds() {
        WitnessedMap map = tenOfThree();
        int least = Integer.MIN_VALUE;
        int largest = Integer.MAX_VALUE;
        Shape open = Shape.inner(
                Shape.inner(Maps.leaf(1, 2), Maps.leaf(3, 4).out()),
                Shape.inner(Maps.leaf(5, 6).out(), Maps.leaf(7, 8).out(), Maps.leaf(9, 10)));
        Expect.same("count of all ints", Maps.proof(map, least, largest, true), open.tokens());
        Expect.same("count of all ints", map.count(map.root(), least, largest), 10);
        Expect.same("rows of all ints", Maps.proof(map, least, largest, false), tenShape().tokens());
        Expect.same("rows of all ints", map.check(map.root(), least, largest), 10);
        map.prove(least, least, true);
        Expect.same("count of the least int", map.count(map.root(), least, least), 0);
        map.prove(largest, largest, true);
        Expect.same("count of the largest int", map.count(map.root(), largest, largest), 0);
    }

    private static void proveReplacesOrRefuses() {
        WitnessedMap map = tenOfThree();
        int[] before = Maps.proof(map, 3, 5, false);
        Expect.same("prove, a above b", map.prove(5, 4, false), -1);
        Expect.same("prove, a above b", map.prove(Integer.MAX_VALUE, Integer.MIN_VALUE, true), -1);
        for (int i = 0; i < before.length; i++) {
            Expect.same("token after a refused prove", map.token(i), before[i]);
        }
        Expect.same("token behind", map.token(before.length), 0);
        int length = map.prove(4, 4, false);
        Expect.same("a shorter proof", length, 18);
        Expect.same("token behind the shorter proof", map.token(length), 0);
        int root = map.root();
        map.put(4, 1);
        Expect.same("a proof stays when the map changes", map.check(root, 4, 4), 1);
        Expect.same("and is not of the new root", map.check(map.root(), 4, 4), -1);
    }

    // Promises 10 to 12

    private static void tokenAnswers() {
        WitnessedMap map = Maps.of(4, 7);
        map.prove(0, 9, false);
        int[] due = {1, 1, 7, 70};
        for (int i = 0; i < due.length; i++) {
            Expect.same("token " + i, map.token(i), due[i]);
        }
        for (int i : new int[] {-1, 4, Integer.MIN_VALUE, Integer.MAX_VALUE}) {
            Expect.same("token " + i, map.token(i), 0);
        }
    }

    private static void alterAnswers() {
        WitnessedMap map = Maps.of(4, 7);
        int length = map.prove(0, 9, false);
        int root = map.root();
        for (int i = 0; i < length; i++) {
            int was = map.token(i);
            Expect.same("alter " + i, map.alter(i, was + 1), true);
            Expect.same("altered " + i, map.token(i), was + 1);
            Expect.same("altered, check", map.check(root, 0, 9), -1);
            Expect.same("alter back " + i, map.alter(i, was), true);
            Expect.same("altered back, check", map.check(root, 0, 9), 1);
        }
        for (int i : new int[] {-1, 4, 5, 300, Integer.MIN_VALUE, Integer.MAX_VALUE}) {
            Expect.same("alter " + i, map.alter(i, 9), false);
            Expect.same("not altered " + i, map.token(i), 0);
        }
        Expect.same("alter leaves the map", map.root(), root);
    }

    private static void trimAnswers() {
        WitnessedMap map = tenOfThree();
        int length = map.prove(3, 5, false);
        Expect.same("trim to all", map.trim(length), true);
        Expect.same("trim to all, check", map.check(map.root(), 3, 5), 3);
        Expect.same("trim to more", map.trim(length + 1), false);
        Expect.same("trim below 0", map.trim(-1), false);
        Expect.same("trim to the largest", map.trim(Integer.MAX_VALUE), false);
        Expect.same("trim to the least", map.trim(Integer.MIN_VALUE), false);
        Expect.same("refused trims, check", map.check(map.root(), 3, 5), 3);
        Expect.same("trim", map.trim(length - 1), true);
        Expect.same("trimmed, check", map.check(map.root(), 3, 5), -1);
        Expect.same("trimmed, token", map.token(length - 1), 0);
        Expect.same("trimmed, alter", map.alter(length - 1, 2), false);
        Expect.same("trimmed, trim back", map.trim(length), false);
        Expect.same("trim to 0", map.trim(0), true);
        Expect.same("trimmed to 0, token", map.token(0), 0);
        Expect.same("trimmed to 0, check", map.check(map.root(), 3, 5), -1);
    }

    // Promises 13 to 15

    private static void checkAnswers() {
        for (int fan = 3; fan <= 5; fan++) {
            WitnessedMap map = Maps.upTo(fan, 50);
            map.prove(20, 30, false);
            Expect.same("check", map.check(map.root(), 20, 30), 11);
            for (int i = 0; i < 11; i++) {
                Expect.same("row's key", map.row(i, 0), 20 + i);
                Expect.same("row's value", map.row(i, 1), 200 + 10 * i);
            }
            Expect.same("row behind", map.row(11, 0), 0);
            Expect.same("check, another digest", map.check(map.root() + 1, 20, 30), -1);
            Expect.same("check, a above b", map.check(map.root(), 30, 20), -1);
            map.prove(60, 70, false);
            Expect.same("check, no rows", map.check(map.root(), 60, 70), 0);
            Expect.same("no rows", map.row(0, 0), 0);
        }
        WitnessedMap empty = new WitnessedMap(3);
        empty.prove(1, 2, false);
        Expect.same("check of nothing", empty.check(empty.root(), 1, 2), 0);
        Expect.same("check of nothing, a above b", empty.check(empty.root(), 2, 1), -1);
        Expect.same("count of nothing, a above b", empty.count(empty.root(), 2, 1), -1);
    }

    private static void checkIsOfItsRange() {
        WitnessedMap map = Maps.of(3, 0, 5, 10, 20, 30, 40);
        map.prove(12, 15, false);
        Expect.same("another range of the same spans", map.check(map.root(), 10, 29), 2);
        Expect.same("a range that needs one more at the end", map.check(map.root(), 10, 30), -1);
        Expect.same("a range that needs one more in front", map.check(map.root(), 9, 29), -1);
        Expect.same("a range of another leaf", map.check(map.root(), 30, 31), -1);
        map.prove(9, 12, false);
        Expect.same("a range that needs less", map.check(map.root(), 10, 12), -1);
        map.prove(10, 29, true);
        Expect.same("rows by a proof of a count", map.check(map.root(), 10, 29), -1);
        map.prove(10, 29, false);
        Expect.same("a count by a proof of rows", map.count(map.root(), 10, 29), -1);
    }

    private static void countAnswers() {
        for (int fan = 3; fan <= 5; fan++) {
            WitnessedMap map = Maps.upTo(fan, 50);
            map.prove(5, 44, true);
            Expect.same("count", map.count(map.root(), 5, 44), 40);
            Expect.same("count, another digest", map.count(map.root() + 1, 5, 44), -1);
            Expect.same("count, a above b", map.count(map.root(), 44, 5), -1);
            map.prove(-20000, 20000, true);
            Expect.same("count of all", map.count(map.root(), -20000, 20000), 50);
            map.prove(51, 51, true);
            Expect.same("count of none", map.count(map.root(), 51, 51), 0);
        }
    }

    private static void rowAnswers() {
        WitnessedMap map = Maps.upTo(3, 20);
        map.prove(4, 6, false);
        map.check(map.root(), 4, 6);
        Expect.same("row 0 0", map.row(0, 0), 4);
        Expect.same("row 2 1", map.row(2, 1), 60);
        for (int of : new int[] {-1, 2, Integer.MIN_VALUE, Integer.MAX_VALUE}) {
            Expect.same("row 0 " + of, map.row(0, of), 0);
        }
        for (int i : new int[] {-1, 3, 500, Integer.MIN_VALUE, Integer.MAX_VALUE}) {
            Expect.same("row " + i + " 0", map.row(i, 0), 0);
            Expect.same("row " + i + " 1", map.row(i, 1), 0);
        }
    }

    private static void rowKeepsTheLastRightCheck() {
        WitnessedMap map = Maps.upTo(3, 20);
        map.prove(4, 6, false);
        map.check(map.root(), 4, 6);
        map.check(map.root() + 1, 4, 6);
        map.check(map.root(), 6, 4);
        Expect.same("row after wrong checks", map.row(1, 0), 5);
        map.prove(9, 9, true);
        Expect.same("count", map.count(map.root(), 9, 9), 1);
        Expect.same("row after count", map.row(2, 1), 60);
        map.alter(0, 7);
        map.check(map.root(), 9, 9);
        map.put(5, 1);
        map.remove(4);
        map.trim(0);
        Expect.same("row after changes", map.row(1, 1), 50);
        map.prove(9, 9, false);
        Expect.same("check again", map.check(map.root(), 9, 9), 1);
        Expect.same("row of the new check", map.row(0, 1), 90);
        Expect.same("no row of the old check", map.row(1, 0), 0);
    }

    // Promise 16

    private static void digestAnswers() {
        WitnessedMap map = new WitnessedMap(3);
        Expect.same("digest", map.digest(1, 1, 0, 0), 0);
        Expect.same("digest", map.digest(1, 1, 1, 10), 738587088);
        Expect.same("digest", map.digest(1, -5, 7, Integer.MIN_VALUE),
                Shape.digestOf(List.of(-5, 7, Integer.MIN_VALUE)));
        int three = map.digest(1, 1, 2, 3);
        Expect.same("digest of six", map.digest(three, 4, 5, 6), Shape.digestOf(List.of(1, 2, 3, 4, 5, 6)));
        // By hand: (3 xor 1) * 16777619 = 33555238, xor 1024 is 33556262, and that xor itself is 0.
        Expect.same("digest by hand", map.digest(3, 1, 33556262, 0), 0);
        Expect.same("digest by hand", map.digest(3, 1, 33556262, 1), 16778131);
        // The shift is without sign: 128 * 16777619 is below 0, and the bits that come in are 0.
        int wrapped = 128 * 16777619;
        Expect.same("digest wraps", map.digest(0, 128, wrapped ^ (wrapped >>> 15), 0), 0);
    }
}
