/**
 * A map in a tree of nodes that all lie equally deep, each with a digest of what is below it: rows
 * of a range, or how many there are, are answered with a proof, and whoever knows the root's digest
 * alone can check it.
 */
public final class WitnessedMap {
    private static final int MOST_ENTRIES = 60;
    private static final int LARGEST_KEY = 9999;
    private static final int DEEPEST = 6;

    private static final int LEFT_OUT = 0;
    private static final int LEAF = 1;
    private static final int INNER = 2;

    // 60 entries lie in at most 30 leaves with at most 26 inner nodes above: 120 + 60 + 52 tokens.
    private static final int MOST_TOKENS = 240;
    // Every key that a proof tells takes two tokens or more, and so does every node.
    private static final int MOST_KEYS = MOST_TOKENS / 2;

    // The root's span has no bounds, so its ends lie outside of all ints.
    private static final long NO_START = -(1L << 40);
    private static final long NO_END = 1L << 40;

    private final Tree tree;
    private final Proof proof;
    private final Checker checker;
    private final Rows rows;

    public WitnessedMap(int fan) {
        int most = fan >= 3 && fan <= 5 ? fan : 4;
        tree = new Tree(most);
        proof = new Proof();
        checker = new Checker(most, proof);
        rows = new Rows();
    }

    public int put(int key, int value) {
        if (key < -LARGEST_KEY || key > LARGEST_KEY) {
            return 0;
        }
        return tree.store(key, value);
    }

    public boolean remove(int key) {
        return tree.drop(key);
    }

    public int get(int key) {
        return tree.valueOf(key);
    }

    public int size() {
        return tree.root.count;
    }

    public int height() {
        return tree.height;
    }

    public int root() {
        return tree.root.digest;
    }

    public int within(int a, int b) {
        return tree.entriesFromTo(a, b);
    }

    public int prove(int a, int b, boolean counts) {
        if (a > b) {
            return -1;
        }
        proof.length = 0;
        new Prover(proof, new Question(a, b, counts)).write(tree.root, NO_START, NO_END, 1);
        return proof.length;
    }

    public int token(int i) {
        return proof.has(i) ? proof.tokens[i] : 0;
    }

    public boolean alter(int i, int v) {
        if (!proof.has(i)) {
            return false;
        }
        proof.tokens[i] = v;
        return true;
    }

    public boolean trim(int n) {
        if (n < 0 || n > proof.length) {
            return false;
        }
        proof.length = n;
        return true;
    }

    public int check(int digest, int a, int b) {
        Question question = new Question(a, b, false);
        if (a > b || !checker.accepts(digest, question)) {
            return -1;
        }
        checker.copyRows(question, rows);
        return rows.length;
    }

    public int count(int digest, int a, int b) {
        Question question = new Question(a, b, true);
        if (a > b || !checker.accepts(digest, question)) {
            return -1;
        }
        return checker.total(question);
    }

    public int row(int i, int of) {
        if (i < 0 || i >= rows.length) {
            return 0;
        }
        switch (of) {
            case 0:
                return rows.keys[i];
            case 1:
                return rows.values[i];
            default:
                return 0;
        }
    }

    public int digest(int h, int x, int y, int z) {
        return mix(mix(mix(h, x), y), z);
    }

    private static int mix(int h, int x) {
        int mixed = (h ^ x) * 16777619;
        return mixed ^ (mixed >>> 15);
    }

    /** What a proof is asked for: the keys from a to b, as rows or as a count. */
    private static final class Question {
        final int a;
        final int b;
        final boolean counts;

        Question(int a, int b, boolean counts) {
            this.a = a;
            this.b = b;
            this.counts = counts;
        }

        boolean covers(int key) {
            return key >= a && key <= b;
        }

        /** Whether a span, its end not with it, has no number that is asked for. */
        boolean misses(long from, long end) {
            return end <= a || from > b;
        }

        /** Whether a span, its end not with it, has only numbers that are asked for. */
        boolean holds(long from, long end) {
            return from >= a && end - 1 <= b;
        }

        boolean leavesOut(long from, long end) {
            return misses(from, end) || counts && holds(from, end);
        }
    }

    /**
     * A leaf with its entries or an inner node with its children. Both have the same slots, so that
     * splitting, lending and joining need not ask which of them it is.
     */
    private static final class Node {
        final boolean leaf;
        final int[] keys;
        final int[] values;
        final Node[] children;
        int size;
        int least;
        int count;
        int digest;

        Node(boolean leaf, int slots) {
            this.leaf = leaf;
            keys = new int[slots];
            values = new int[slots];
            children = new Node[slots];
        }

        /** The first slot of a leaf whose key is not below this one. */
        int slotOf(int key) {
            int i = 0;
            while (i < size && keys[i] < key) {
                i++;
            }
            return i;
        }

        boolean hasAt(int i, int key) {
            return i < size && keys[i] == key;
        }

        /** The slot of the child that a key belongs to. */
        int childFor(int key) {
            int i = 0;
            while (i + 1 < size && children[i + 1].least <= key) {
                i++;
            }
            return i;
        }

        void copySlot(int i, Node to, int j) {
            to.keys[j] = keys[i];
            to.values[j] = values[i];
            to.children[j] = children[i];
        }

        void openSlot(int i) {
            for (int j = size; j > i; j--) {
                copySlot(j - 1, this, j);
            }
            size++;
        }

        void closeSlot(int i) {
            for (int j = i + 1; j < size; j++) {
                copySlot(j, this, j - 1);
            }
            size--;
        }

        /** Moves what is in slot i into a slot j that is opened for it. */
        void moveSlot(int i, Node to, int j) {
            to.openSlot(j);
            copySlot(i, to, j);
            closeSlot(i);
        }

        /** Moves all from slot i on to the end of another node. */
        void moveTail(int i, Node to) {
            for (int j = i; j < size; j++) {
                copySlot(j, to, to.size);
                to.size++;
            }
            size = i;
        }

        /** What is told of a node hangs on what is below it, so it is made anew from below upwards. */
        void renew() {
            int entries = 0;
            int h = mix(mix(1, leaf ? LEAF : INNER), size);
            for (int i = 0; i < size; i++) {
                if (leaf) {
                    h = mix(mix(h, keys[i]), values[i]);
                    entries++;
                } else {
                    Node child = children[i];
                    h = mix(mix(mix(h, child.least), child.digest), child.count);
                    entries += child.count;
                }
            }
            digest = h;
            count = entries;
            if (size > 0) {
                least = leaf ? keys[0] : children[0].least;
            }
        }
    }

    /** The nodes, and how keys are put into them and removed from them. */
    private static final class Tree {
        final int fan;
        final int low;
        // The way from the root to the leaf of the last key that was looked for.
        final Node[] path;
        final int[] places;
        Node root;
        int height;

        Tree(int fan) {
            this.fan = fan;
            low = (fan + 1) / 2;
            path = new Node[DEEPEST];
            places = new int[DEEPEST];
            root = new Node(true, fan + 1);
            root.renew();
            height = 1;
        }

        int valueOf(int key) {
            Node leaf = leafFor(key);
            int i = leaf.slotOf(key);
            return leaf.hasAt(i, key) ? leaf.values[i] : 0;
        }

        int store(int key, int value) {
            Node leaf = leafFor(key);
            int i = leaf.slotOf(key);
            boolean known = leaf.hasAt(i, key);
            if (!known && root.count >= MOST_ENTRIES) {
                return 0;
            }
            if (!known) {
                leaf.openSlot(i);
                leaf.keys[i] = key;
            }
            leaf.values[i] = value;
            splitUpwards();
            return known ? 2 : 1;
        }

        boolean drop(int key) {
            Node leaf = leafFor(key);
            int i = leaf.slotOf(key);
            if (!leaf.hasAt(i, key)) {
                return false;
            }
            leaf.closeSlot(i);
            refillUpwards();
            return true;
        }

        int entriesFromTo(int a, int b) {
            return entriesBelow(root, a, b, 1);
        }

        private int entriesBelow(Node node, int a, int b, int depth) {
            int found = 0;
            for (int i = 0; i < node.size && depth <= DEEPEST; i++) {
                if (!node.leaf) {
                    found += entriesBelow(node.children[i], a, b, depth + 1);
                } else if (node.keys[i] >= a && node.keys[i] <= b) {
                    found++;
                }
            }
            return found;
        }

        private Node leafFor(int key) {
            Node node = root;
            path[0] = node;
            for (int depth = 1; depth < height; depth++) {
                int place = node.childFor(key);
                node = node.children[place];
                places[depth - 1] = place;
                path[depth] = node;
            }
            return node;
        }

        private void splitUpwards() {
            for (int depth = height - 1; depth > 0; depth--) {
                path[depth].renew();
                splitIfTooLarge(path[depth - 1], places[depth - 1]);
            }
            root.renew();
            if (root.size > fan) {
                growRoot();
            }
        }

        private void growRoot() {
            Node above = new Node(false, fan + 1);
            above.children[0] = root;
            above.size = 1;
            splitIfTooLarge(above, 0);
            above.renew();
            root = above;
            height++;
        }

        private void splitIfTooLarge(Node parent, int place) {
            Node node = parent.children[place];
            if (node.size <= fan) {
                return;
            }
            Node behind = new Node(node.leaf, fan + 1);
            node.moveTail((fan + 2) / 2, behind);
            node.renew();
            behind.renew();
            parent.openSlot(place + 1);
            parent.children[place + 1] = behind;
        }

        private void refillUpwards() {
            for (int depth = height - 1; depth > 0; depth--) {
                path[depth].renew();
                if (path[depth].size < low) {
                    refill(path[depth - 1], places[depth - 1]);
                }
            }
            root.renew();
            if (!root.leaf && root.size == 1) {
                root = root.children[0];
                height--;
            }
        }

        private void refill(Node parent, int place) {
            Node node = parent.children[place];
            Node before = place > 0 ? parent.children[place - 1] : null;
            Node behind = place + 1 < parent.size ? parent.children[place + 1] : null;
            if (before != null && before.size > low) {
                before.moveSlot(before.size - 1, node, 0);
                before.renew();
                node.renew();
            } else if (behind != null && behind.size > low) {
                behind.moveSlot(0, node, node.size);
                behind.renew();
                node.renew();
            } else if (before != null) {
                join(parent, place - 1);
            } else if (behind != null) {
                join(parent, place);
            }
        }

        /** All of the node behind a place goes to the end of the node there. */
        private void join(Node parent, int place) {
            Node node = parent.children[place];
            parent.children[place + 1].moveTail(0, node);
            node.renew();
            parent.closeSlot(place + 1);
        }
    }

    /** A row of tokens. */
    private static final class Proof {
        final int[] tokens;
        int length;

        Proof() {
            tokens = new int[MOST_TOKENS];
        }

        boolean has(int i) {
            return i >= 0 && i < length;
        }

        void append(int token) {
            if (length < tokens.length) {
                tokens[length] = token;
                length++;
            }
        }
    }

    /** Writes the proof that answers a question. */
    private static final class Prover {
        final Proof proof;
        final Question question;

        Prover(Proof proof, Question question) {
            this.proof = proof;
            this.question = question;
        }

        void write(Node node, long from, long end, int depth) {
            if (node.leaf) {
                writeLeaf(node);
            } else if (depth < DEEPEST) {
                writeInner(node, from, end, depth);
            }
        }

        private void writeLeaf(Node node) {
            proof.append(LEAF);
            proof.append(node.size);
            for (int i = 0; i < node.size; i++) {
                proof.append(node.keys[i]);
                proof.append(node.values[i]);
            }
        }

        private void writeInner(Node node, long from, long end, int depth) {
            proof.append(INNER);
            proof.append(node.size);
            for (int i = 0; i < node.size; i++) {
                Node child = node.children[i];
                long childFrom = i == 0 ? from : child.least;
                long childEnd = i + 1 < node.size ? node.children[i + 1].least : end;
                if (question.leavesOut(childFrom, childEnd)) {
                    writeLeftOut(child);
                } else {
                    write(child, childFrom, childEnd, depth + 1);
                }
            }
        }

        private void writeLeftOut(Node node) {
            proof.append(LEFT_OUT);
            proof.append(node.least);
            proof.append(node.digest);
            proof.append(node.count);
        }
    }

    /** Entries that a proof has shown. */
    private static final class Rows {
        final int[] keys;
        final int[] values;
        int length;

        Rows() {
            keys = new int[MOST_KEYS];
            values = new int[MOST_KEYS];
        }

        void append(int key, int value) {
            if (length < keys.length) {
                keys[length] = key;
                values[length] = value;
                length++;
            }
        }
    }

    /**
     * Checks a proof by its tokens alone. A span ends where the next key to the right is told, which
     * is known only further on: so all is read first, and the spans are looked at behind that.
     */
    private static final class Checker {
        final int fan;
        final Proof proof;
        // From the left: each entry with its value, and each least key that is told with its count.
        final int[] keys;
        final int[] numbers;
        final boolean[] leftOut;
        // For each child that is not left out: where its keys begin and end among those.
        final int[] begins;
        final int[] ends;
        int at;
        int keysRead;
        int childrenRead;
        // Of the node that was read last.
        int least;
        int digest;
        int count;

        Checker(int fan, Proof proof) {
            this.fan = fan;
            this.proof = proof;
            keys = new int[MOST_KEYS];
            numbers = new int[MOST_KEYS];
            leftOut = new boolean[MOST_KEYS];
            begins = new int[MOST_KEYS];
            ends = new int[MOST_KEYS];
        }

        boolean accepts(int wanted, Question question) {
            at = 0;
            keysRead = 0;
            childrenRead = 0;
            return readNode(1) && at == proof.length && digest == wanted
                    && keysRise() && leftOutFits(question) && shownFits(question);
        }

        void copyRows(Question question, Rows rows) {
            rows.length = 0;
            for (int i = 0; i < keysRead; i++) {
                if (isRow(i, question)) {
                    rows.append(keys[i], numbers[i]);
                }
            }
        }

        int total(Question question) {
            int sum = 0;
            for (int i = 0; i < keysRead; i++) {
                if (isRow(i, question)) {
                    sum++;
                } else if (leftOut[i] && question.holds(spanFrom(i), spanEnd(i + 1))) {
                    sum += numbers[i];
                }
            }
            return sum;
        }

        private boolean isRow(int i, Question question) {
            return !leftOut[i] && question.covers(keys[i]);
        }

        private boolean readNode(int depth) {
            if (depth > DEEPEST || !hasMore(2)) {
                return false;
            }
            int kind = next();
            int size = next();
            boolean isRoot = depth == 1;
            if (kind == LEAF) {
                return size >= (isRoot ? 0 : 1) && size <= fan && readEntries(size);
            }
            return kind == INNER && size >= (isRoot ? 2 : 1) && size <= fan
                    && readChildren(size, depth);
        }

        private boolean readEntries(int size) {
            if (!hasMore(2 * size)) {
                return false;
            }
            int first = keysRead;
            int h = mix(mix(1, LEAF), size);
            for (int i = 0; i < size; i++) {
                int key = next();
                int value = next();
                note(key, value, false);
                h = mix(mix(h, key), value);
            }
            least = size > 0 ? keys[first] : 0;
            count = size;
            digest = h;
            return true;
        }

        private boolean readChildren(int size, int depth) {
            int firstLeast = 0;
            int sum = 0;
            int h = mix(mix(1, INNER), size);
            for (int i = 0; i < size; i++) {
                if (!readChild(depth + 1)) {
                    return false;
                }
                if (i == 0) {
                    firstLeast = least;
                }
                sum += count;
                h = mix(mix(mix(h, least), digest), count);
            }
            least = firstLeast;
            count = sum;
            digest = h;
            return true;
        }

        private boolean readChild(int depth) {
            if (hasMore(1) && proof.tokens[at] == LEFT_OUT) {
                return readLeftOut(depth);
            }
            int begin = keysRead;
            if (!readNode(depth)) {
                return false;
            }
            noteChild(begin);
            return true;
        }

        private boolean readLeftOut(int depth) {
            if (depth > DEEPEST || !hasMore(4)) {
                return false;
            }
            at++;
            least = next();
            digest = next();
            count = next();
            note(least, count, true);
            return count >= 1;
        }

        private boolean hasMore(int tokens) {
            return proof.length - at >= tokens;
        }

        private int next() {
            int token = proof.has(at) ? proof.tokens[at] : 0;
            at++;
            return token;
        }

        private void note(int key, int number, boolean out) {
            if (keysRead < keys.length) {
                keys[keysRead] = key;
                numbers[keysRead] = number;
                leftOut[keysRead] = out;
                keysRead++;
            }
        }

        private void noteChild(int begin) {
            if (childrenRead < begins.length) {
                begins[childrenRead] = begin;
                ends[childrenRead] = keysRead;
                childrenRead++;
            }
        }

        private boolean keysRise() {
            for (int i = 1; i < keysRead; i++) {
                if (keys[i] <= keys[i - 1]) {
                    return false;
                }
            }
            return true;
        }

        private boolean leftOutFits(Question question) {
            for (int i = 0; i < keysRead; i++) {
                if (leftOut[i] && !question.leavesOut(spanFrom(i), spanEnd(i + 1))) {
                    return false;
                }
            }
            return true;
        }

        private boolean shownFits(Question question) {
            for (int i = 0; i < childrenRead; i++) {
                if (question.leavesOut(spanFrom(begins[i]), spanEnd(ends[i]))) {
                    return false;
                }
            }
            return true;
        }

        /** Where the span of a child begins whose first key is the one at i. */
        private long spanFrom(int i) {
            return i > 0 ? keys[i] : NO_START;
        }

        /** Where the span of a child ends behind which the key at i comes next. */
        private long spanEnd(int i) {
            return i < keysRead ? keys[i] : NO_END;
        }
    }
}
