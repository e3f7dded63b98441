import java.util.ArrayList;
import java.util.List;
import java.util.Random;

/** Long runs of calls, the same each time, on the class and on the model of the document's words. */
public final class ModelTest {
    private static final int[] EXTREMES = {
        Integer.MIN_VALUE, Integer.MIN_VALUE + 1, -10000, -9999, -1, 0, 1, 2, 3, 59, 60, 61, 9999, 10000,
        Integer.MAX_VALUE - 1, Integer.MAX_VALUE
    };

    // More calls than a step of a run can take.
    private static final int ONE_STEP = 20;
    // A proof has at most 232 tokens; two more are looked at, and prove, root and check are called.
    private static final int WHOLE_PROOF = 237 + ONE_STEP;

    private int rightChecks = 0;
    private int rightCounts = 0;

    private ModelTest() {
    }

    public static void main(String[] args) {
        ModelTest test = new ModelTest();
        for (int seed = 1; seed <= 3000 && Expect.wrongSoFar() < 20; seed++) {
            test.runOfCalls(seed);
        }
        for (int seed = 1; seed <= 4000 && Expect.wrongSoFar() < 20; seed++) {
            test.forgery(seed);
        }
        Expect.same("many checks were right", test.rightChecks > 1000, true);
        Expect.same("many counts were right", test.rightCounts > 1000, true);
        Expect.finish();
    }

    private void runOfCalls(int seed) {
        Random random = new Random(seed);
        int fan = seed % 8;
        int keys = 20 + random.nextInt(140);
        Pair pair = new Pair("run " + seed, new WitnessedMap(fan), new Model(fan), 0);
        // First more is put than removed, then the other way round, so that trees grow and shrink.
        int turn = 40 + random.nextInt(160);
        boolean looksAtAll = seed % 3 == 0;
        for (int step = 0; pair.callsLeft() > (looksAtAll ? WHOLE_PROOF : ONE_STEP); step++) {
            int growing = step % (2 * turn) < turn ? 7 : 2;
            one(random, pair, keys, growing);
        }
        if (looksAtAll) {
            wholeProof(random, pair, keys);
        }
        Expect.same(seed + ", the model is sound", pair.model.isSound(), true);
    }

    private static int pick(Random random, int keys) {
        return random.nextInt(40) == 0
                ? EXTREMES[random.nextInt(EXTREMES.length)] : random.nextInt(keys) - keys / 2;
    }

    private void one(Random random, Pair pair, int keys, int growing) {
        int x = pick(random, keys);
        int y = pick(random, keys);
        if (random.nextInt(5) > 0) {
            if (random.nextInt(9) < growing) {
                pair.put(x, y);
            } else {
                pair.remove(x);
            }
            return;
        }
        switch (random.nextInt(9)) {
            case 0:
                pair.get(x);
                break;
            case 1:
                pair.size();
                pair.height();
                pair.root();
                break;
            case 2:
                pair.within(x, y);
                break;
            case 3:
                pair.alter(Math.abs(x), y);
                break;
            case 4:
                pair.trim(x * 5);
                break;
            case 5:
                pair.row(x, y & 3);
                break;
            default:
                proveAndCheck(random, pair, x, y);
        }
    }

    private void proveAndCheck(Random random, Pair pair, int x, int y) {
        int a = random.nextInt(10) == 0 ? x : Math.min(x, y);
        int b = Math.max(x, y);
        int length = pair.prove(a, b, random.nextBoolean());
        pair.token(random.nextInt(Math.max(length, 1)));
        if (random.nextInt(3) == 0) {
            int i = random.nextInt(Math.max(length, 1));
            pair.alter(i, pair.model.token(i) ^ 1 << random.nextInt(32));
        }
        ask(pair, pair.model.root(), a, b);
        ask(pair, pair.model.root(), a + random.nextInt(3) - 1, b + random.nextInt(3) - 1);
    }

    /** The last calls of a run look at each token of a proof and at each of its rows. */
    private void wholeProof(Random random, Pair pair, int keys) {
        int x = pick(random, keys);
        int y = pick(random, keys);
        int length = pair.prove(Math.min(x, y), Math.max(x, y), random.nextBoolean());
        for (int i = -1; i <= length; i++) {
            pair.token(i);
        }
        int shown = pair.check(pair.root(), Math.min(x, y), Math.max(x, y));
        for (int i = 0; i <= shown && pair.callsLeft() > 1; i++) {
            pair.row(i, 0);
            pair.row(i, 1);
        }
    }

    private void ask(Pair pair, int digest, int a, int b) {
        int shown = pair.check(digest, a, b);
        int counted = pair.count(digest, a, b);
        pair.row(0, 0);
        pair.row(Math.max(shown - 1, 0), 1);
        pair.row(Math.max(shown, 0), 0);
        rightChecks += shown >= 0 ? 1 : 0;
        rightCounts += counted >= 0 ? 1 : 0;
    }

    /** A tree that no map may have, its proof for some range, perhaps spoilt, with the right digest. */
    private void forgery(int seed) {
        Random random = new Random(-seed);
        int fan = 3 + random.nextInt(3);
        int[] key = {random.nextInt(10) == 0 ? Integer.MIN_VALUE : -random.nextInt(20)};
        Shape tree = forged(random, fan, 1, key);
        int a = random.nextInt(20) == 0 ? Integer.MIN_VALUE : random.nextInt(60) - 20;
        int b = random.nextInt(20) == 0 ? Integer.MAX_VALUE : a + random.nextInt(40);
        boolean counts = random.nextBoolean();
        Shape proof = Model.proofOf(tree, a, b, counts);
        if (random.nextInt(3) == 0) {
            spoil(random, proof);
        }
        int[] tokens = proof.tokens();
        if (tokens.length > 150) {
            return;
        }
        Model model = new Model(fan);
        model.proof = Model.listOf(tokens);
        Pair pair = new Pair("forgery " + seed, Maps.withProof(fan, tokens), model, 62 + tokens.length);
        ask(pair, proof.digest(), a, b);
        ask(pair, proof.digest(), a + random.nextInt(3) - 1, b + random.nextInt(3) - 1);
    }

    private static Shape forged(Random random, int fan, int depth, int[] key) {
        int size = 1 + random.nextInt(random.nextInt(30) == 0 ? fan + 1 : fan);
        if (depth > random.nextInt(8)) {
            Shape leaf = Shape.leaf();
            for (int i = 0; i < size; i++) {
                leaf.entries.add(new int[] {key[0], random.nextInt()});
                key[0] += 1 + random.nextInt(4) - (random.nextInt(60) == 0 ? 1 : 0);
            }
            return leaf;
        }
        List<Shape> children = new ArrayList<>();
        for (int i = 0; i < size; i++) {
            children.add(forged(random, fan, depth + 1, key));
        }
        return Shape.inner(children.toArray(new Shape[0]));
    }

    private static void spoil(Random random, Shape node) {
        if (node.children.isEmpty()) {
            return;
        }
        int i = random.nextInt(node.children.size());
        Shape child = node.children.get(i);
        if (random.nextInt(3) > 0) {
            spoil(random, child);
        } else if (child.kind == Shape.OUT) {
            int told = random.nextBoolean() ? random.nextInt() : child.count() - random.nextInt(3);
            node.children.set(i, Shape.out(child.least() + random.nextInt(3) - 1, child.digest(), told));
        } else {
            node.children.set(i, child.out());
        }
    }
}
