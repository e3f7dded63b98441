import java.util.ArrayList;
import java.util.List;

/**
 * The document's terms word by word, without anything kept twice: what the class under test answers
 * is held against this one.
 */
final class Model {
    private static final long NO_START = Long.MIN_VALUE;
    private static final long NO_END = Long.MAX_VALUE;

    private final int fan;
    private final int low;
    private Shape root = Shape.leaf();
    List<Integer> proof = new ArrayList<>();
    private List<int[]> rows = new ArrayList<>();

    Model(int fan) {
        this.fan = fan >= 3 && fan <= 5 ? fan : 4;
        low = (this.fan + 1) / 2;
    }

    // The map.

    int put(int key, int value) {
        boolean known = within(key, key) == 1;
        if (key < -9999 || key > 9999 || !known && size() == 60) {
            return 0;
        }
        putBelow(root, key, value);
        if (sizeOf(root) > fan) {
            root = Shape.inner(root);
            splitChild(root, 0);
        }
        return known ? 2 : 1;
    }

    private void putBelow(Shape node, int key, int value) {
        if (node.kind == Shape.LEAF) {
            node.entries.removeIf(entry -> entry[0] == key);
            node.entries.add(new int[] {key, value});
            node.entries.sort((x, y) -> Integer.compare(x[0], y[0]));
            return;
        }
        int place = childFor(node, key);
        putBelow(node.children.get(place), key, value);
        if (sizeOf(node.children.get(place)) > fan) {
            splitChild(node, place);
        }
    }

    private static int childFor(Shape node, int key) {
        for (int i = node.children.size() - 1; i > 0; i--) {
            if (node.children.get(i).least() <= key) {
                return i;
            }
        }
        return 0;
    }

    private void splitChild(Shape parent, int place) {
        Shape node = parent.children.get(place);
        int stay = (fan + 2) / 2;
        Shape behind = node.kind == Shape.LEAF ? Shape.leaf() : Shape.inner();
        while (sizeOf(node) > stay) {
            move(node, stay, behind, sizeOf(behind));
        }
        parent.children.add(place + 1, behind);
    }

    private static int sizeOf(Shape node) {
        return node.entries.size() + node.children.size();
    }

    private static void move(Shape from, int i, Shape to, int j) {
        if (from.kind == Shape.LEAF) {
            to.entries.add(j, from.entries.remove(i));
        } else {
            to.children.add(j, from.children.remove(i));
        }
    }

    boolean remove(int key) {
        if (within(key, key) == 0) {
            return false;
        }
        removeBelow(root, key);
        if (root.kind == Shape.INNER && root.children.size() == 1) {
            root = root.children.get(0);
        }
        return true;
    }

    private void removeBelow(Shape node, int key) {
        if (node.kind == Shape.LEAF) {
            node.entries.removeIf(entry -> entry[0] == key);
            return;
        }
        int place = childFor(node, key);
        removeBelow(node.children.get(place), key);
        if (sizeOf(node.children.get(place)) < low) {
            refill(node, place);
        }
    }

    private void refill(Shape parent, int place) {
        Shape node = parent.children.get(place);
        Shape before = place > 0 ? parent.children.get(place - 1) : null;
        Shape behind = place + 1 < parent.children.size() ? parent.children.get(place + 1) : null;
        if (before != null && sizeOf(before) > low) {
            move(before, sizeOf(before) - 1, node, 0);
        } else if (behind != null && sizeOf(behind) > low) {
            move(behind, 0, node, sizeOf(node));
        } else if (before != null) {
            empty(node, before);
            parent.children.remove(place);
        } else {
            empty(behind, node);
            parent.children.remove(place + 1);
        }
    }

    private static void empty(Shape from, Shape to) {
        while (sizeOf(from) > 0) {
            move(from, 0, to, sizeOf(to));
        }
    }

    private static List<int[]> entriesOf(Shape node) {
        List<int[]> all = new ArrayList<>(node.entries);
        for (Shape child : node.children) {
            all.addAll(entriesOf(child));
        }
        return all;
    }

    int get(int key) {
        for (int[] entry : entriesOf(root)) {
            if (entry[0] == key) {
                return entry[1];
            }
        }
        return 0;
    }

    int size() {
        return entriesOf(root).size();
    }

    int height() {
        int height = 1;
        for (Shape node = root; node.kind == Shape.INNER; node = node.children.get(0)) {
            height++;
        }
        return height;
    }

    int root() {
        return root.digest();
    }

    int within(int a, int b) {
        int found = 0;
        for (int[] entry : entriesOf(root)) {
            if (entry[0] >= a && entry[0] <= b) {
                found++;
            }
        }
        return found;
    }

    /** Whether sizes and depths are those of the document's terms. */
    boolean isSound() {
        return isSound(root, true) && entriesOf(root).size() <= 60;
    }

    private boolean isSound(Shape node, boolean isRoot) {
        int least = isRoot ? (node.kind == Shape.INNER ? 2 : 0) : low;
        boolean sound = sizeOf(node) >= least && sizeOf(node) <= fan;
        for (Shape child : node.children) {
            sound = sound && child.kind == node.children.get(0).kind && isSound(child, false);
        }
        return sound;
    }

    // The proof.

    int prove(int a, int b, boolean counts) {
        if (a > b) {
            return -1;
        }
        proof = listOf(proofOf(root, NO_START, NO_END, a, b, counts).tokens());
        return proof.size();
    }

    static List<Integer> listOf(int[] tokens) {
        List<Integer> list = new ArrayList<>();
        for (int token : tokens) {
            list.add(token);
        }
        return list;
    }

    /** The proof that a tree has, which itself may have parts that are left out already. */
    static Shape proofOf(Shape node, int a, int b, boolean counts) {
        return proofOf(node, NO_START, NO_END, a, b, counts);
    }

    private static Shape proofOf(Shape node, long from, long end, int a, int b, boolean counts) {
        if (node.kind != Shape.INNER) {
            return node;
        }
        Shape shown = Shape.inner();
        for (int i = 0; i < node.children.size(); i++) {
            Shape child = node.children.get(i);
            long childFrom = i == 0 ? from : child.least();
            long childEnd = i + 1 < node.children.size() ? node.children.get(i + 1).least() : end;
            shown.children.add(isLeftOut(childFrom, childEnd, a, b, counts)
                    ? child.out() : proofOf(child, childFrom, childEnd, a, b, counts));
        }
        return shown;
    }

    private static boolean isLeftOut(long from, long end, int a, int b, boolean counts) {
        boolean none = b < from || a >= end;
        return none || counts && isWithin(from, end, a, b);
    }

    private static boolean isWithin(long from, long end, int a, int b) {
        return a <= from && end <= b + 1L;
    }

    int token(int i) {
        return i >= 0 && i < proof.size() ? proof.get(i) : 0;
    }

    boolean alter(int i, int v) {
        if (i < 0 || i >= proof.size()) {
            return false;
        }
        proof.set(i, v);
        return true;
    }

    boolean trim(int n) {
        if (n < 0 || n > proof.size()) {
            return false;
        }
        proof = new ArrayList<>(proof.subList(0, n));
        return true;
    }

    // Checking.

    int check(int digest, int a, int b) {
        Shape shown = checked(digest, a, b, false);
        if (shown == null) {
            return -1;
        }
        rows = rowsOf(shown, a, b);
        return rows.size();
    }

    int count(int digest, int a, int b) {
        Shape shown = checked(digest, a, b, true);
        if (shown == null) {
            return -1;
        }
        return rowsOf(shown, a, b).size() + toldWithin(shown, NO_START, NO_END, a, b);
    }

    int row(int i, int of) {
        return i >= 0 && i < rows.size() && (of == 0 || of == 1) ? rows.get(i)[of] : 0;
    }

    private static List<int[]> rowsOf(Shape shown, int a, int b) {
        List<int[]> found = entriesOf(shown);
        found.removeIf(entry -> entry[0] < a || entry[0] > b);
        return found;
    }

    private Shape checked(int digest, int a, int b, boolean counts) {
        int[] at = {0};
        Shape shown = a <= b ? read(at, 1) : null;
        boolean right = shown != null && at[0] == proof.size() && rises(keysOf(shown))
                && fits(shown, NO_START, NO_END, a, b, counts) && shown.digest() == digest;
        return right ? shown : null;
    }

    private int take(int[] at) {
        return token(at[0]++);
    }

    private Shape read(int[] at, int depth) {
        int kind = take(at);
        if (kind == Shape.OUT) {
            Shape out = Shape.out(take(at), take(at), take(at));
            return depth > 1 && depth <= 6 && at[0] <= proof.size() && out.count() >= 1 ? out : null;
        }
        int size = take(at);
        int least = depth > 1 ? 1 : kind == Shape.INNER ? 2 : 0;
        if (kind < 0 || kind > Shape.INNER || depth > 6 || size < least || size > fan) {
            return null;
        }
        Shape node = kind == Shape.LEAF ? Shape.leaf() : Shape.inner();
        for (int i = 0; i < size; i++) {
            if (kind == Shape.LEAF) {
                node.entries.add(new int[] {take(at), take(at)});
                continue;
            }
            Shape child = read(at, depth + 1);
            if (child == null) {
                return null;
            }
            node.children.add(child);
        }
        return at[0] <= proof.size() ? node : null;
    }

    private static List<Integer> keysOf(Shape node) {
        List<Integer> keys = new ArrayList<>();
        if (node.kind == Shape.OUT) {
            keys.add(node.least());
        }
        for (int[] entry : node.entries) {
            keys.add(entry[0]);
        }
        for (Shape child : node.children) {
            keys.addAll(keysOf(child));
        }
        return keys;
    }

    private static boolean rises(List<Integer> keys) {
        for (int i = 1; i < keys.size(); i++) {
            if (keys.get(i - 1) >= keys.get(i)) {
                return false;
            }
        }
        return true;
    }

    private static boolean fits(Shape node, long from, long end, int a, int b, boolean counts) {
        boolean right = true;
        for (int i = 0; i < node.children.size(); i++) {
            Shape child = node.children.get(i);
            long childFrom = i == 0 ? from : child.least();
            long childEnd = i + 1 < node.children.size() ? node.children.get(i + 1).least() : end;
            right = right && (child.kind == Shape.OUT) == isLeftOut(childFrom, childEnd, a, b, counts)
                    && fits(child, childFrom, childEnd, a, b, counts);
        }
        return right;
    }

    private static int toldWithin(Shape node, long from, long end, int a, int b) {
        int sum = 0;
        for (int i = 0; i < node.children.size(); i++) {
            Shape child = node.children.get(i);
            long childFrom = i == 0 ? from : child.least();
            long childEnd = i + 1 < node.children.size() ? node.children.get(i + 1).least() : end;
            if (child.kind != Shape.OUT) {
                sum += toldWithin(child, childFrom, childEnd, a, b);
            } else if (isWithin(childFrom, childEnd, a, b)) {
                sum += child.count();
            }
        }
        return sum;
    }
}
