import java.util.ArrayList;
import java.util.List;

/** A proof as a tree, right or wrong, with the tokens and the digest that the document gives it. */
final class Shape {
    static final int OUT = 0;
    static final int LEAF = 1;
    static final int INNER = 2;

    final int kind;
    final List<int[]> entries = new ArrayList<>();
    final List<Shape> children = new ArrayList<>();
    private int toldLeast;
    private int toldDigest;
    private int toldCount;

    private Shape(int kind) {
        this.kind = kind;
    }

    static Shape leaf(int... keysAndValues) {
        Shape leaf = new Shape(LEAF);
        for (int i = 0; i < keysAndValues.length; i += 2) {
            leaf.entries.add(new int[] {keysAndValues[i], keysAndValues[i + 1]});
        }
        return leaf;
    }

    static Shape inner(Shape... children) {
        Shape inner = new Shape(INNER);
        inner.children.addAll(List.of(children));
        return inner;
    }

    static Shape out(int least, int digest, int count) {
        Shape out = new Shape(OUT);
        out.toldLeast = least;
        out.toldDigest = digest;
        out.toldCount = count;
        return out;
    }

    /** This one left out. */
    Shape out() {
        return out(least(), digest(), count());
    }

    int least() {
        switch (kind) {
            case LEAF:
                return entries.get(0)[0];
            case INNER:
                return children.get(0).least();
            default:
                return toldLeast;
        }
    }

    int count() {
        if (kind == LEAF) {
            return entries.size();
        }
        if (kind == OUT) {
            return toldCount;
        }
        int sum = 0;
        for (Shape child : children) {
            sum += child.count();
        }
        return sum;
    }

    int height() {
        return kind == INNER ? 1 + children.get(0).height() : 1;
    }

    int digest() {
        if (kind == OUT) {
            return toldDigest;
        }
        List<Integer> numbers = new ArrayList<>();
        numbers.add(kind);
        numbers.add(entries.size() + children.size());
        for (int[] entry : entries) {
            numbers.add(entry[0]);
            numbers.add(entry[1]);
        }
        for (Shape child : children) {
            numbers.add(child.least());
            numbers.add(child.digest());
            numbers.add(child.count());
        }
        return digestOf(numbers);
    }

    static int digestOf(List<Integer> numbers) {
        int h = 1;
        for (int x : numbers) {
            h = (h ^ x) * 16777619;
            h = h ^ (h >>> 15);
        }
        return h;
    }

    int[] tokens() {
        List<Integer> tokens = new ArrayList<>();
        write(tokens);
        int[] row = new int[tokens.size()];
        for (int i = 0; i < row.length; i++) {
            row[i] = tokens.get(i);
        }
        return row;
    }

    private void write(List<Integer> tokens) {
        tokens.add(kind);
        if (kind == OUT) {
            tokens.add(toldLeast);
            tokens.add(toldDigest);
            tokens.add(toldCount);
            return;
        }
        tokens.add(entries.size() + children.size());
        for (int[] entry : entries) {
            tokens.add(entry[0]);
            tokens.add(entry[1]);
        }
        for (Shape child : children) {
            child.write(tokens);
        }
    }
}
