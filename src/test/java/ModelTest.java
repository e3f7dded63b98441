import java.util.ArrayList;
import java.util.List;
import java.util.Random;

/** Long runs of calls, the same each time, on the class and on the model of the document's words. */
public final class ModelTest {
    private static final int[] EXTREMES = {
        Integer.MIN_VALUE, Integer.MIN_VALUE + 1, -10000, -9999, -1, 0, 1, 2, 3, 59, 60, 61, 9999, 10000,
        Integer.MAX_VALUE - 1, Integer.MAX_VALUE
    };

    private int rightChecks = 0;
    private int rightCounts = 0;

    private ModelTest() {
    }

    public static void main(String[] args) {
        ModelTest test = new ModelTest();
        for (int seed = 1; seed <= 400 && Expect.wrongSoFar() < 20; seed++) {
            test.runOfCalls(seed);
        }
        for (int seed = 1; seed <= 4000 && Expect.wrongSoFar() < 20; seed++) {
            test.forgery(seed);
        }
        Expect.same("many checks were right", test.rightChecks > 1000, true);
        Expect.same("many counts were right", test.rightCounts > 1000, true);
        Expect.finish();
    }

    private void runOfCalls(int seed) {
        Random random = new Random(seed);
        int fan = seed % 8;
        int keys = 20 + random.nextInt(140);
        WitnessedMap map = new WitnessedMap(fan);
        Model model = new Model(fan);
        // First more is put than removed, then the other way round, so that trees grow and shrink.
        for (int call = 0; call < 510; call++) {
            int growing = call % 250 < 125 ? 7 : 2;
            one(seed + "/" + call, random, map, model, keys, growing);
        }
        Expect.same(seed + ", the model is sound", model.isSound(), true);
    }

    private static int pick(Random random, int keys) {
        return random.nextInt(40) == 0
                ? EXTREMES[random.nextInt(EXTREMES.length)] : random.nextInt(keys) - keys / 2;
    }

    private void one(String at, Random random, WitnessedMap map, Model model, int keys, int growing) {
        int x = pick(random, keys);
        int y = pick(random, keys);
        if (random.nextInt(3) > 0) {
            if (random.nextInt(9) < growing) {
                Expect.same(at + " put", map.put(x, y), model.put(x, y));
            } else {
                Expect.same(at + " remove", map.remove(x), model.remove(x));
            }
            Expect.same(at + " root", map.root(), model.root());
            return;
        }
        switch (random.nextInt(9)) {
            case 0:
                Expect.same(at + " get", map.get(x), model.get(x));
                break;
            case 1:
                Expect.same(at + " size", map.size(), model.size());
                Expect.same(at + " height", map.height(), model.height());
                break;
            case 2:
                Expect.same(at + " within", map.within(x, y), model.within(x, y));
                break;
            case 3:
                Expect.same(at + " alter", map.alter(Math.abs(x), y), model.alter(Math.abs(x), y));
                break;
            case 4:
                Expect.same(at + " trim", map.trim(x * 5), model.trim(x * 5));
                break;
            case 5:
                Expect.same(at + " row", map.row(x, y & 3), model.row(x, y & 3));
                break;
            default:
                proveAndCheck(at, random, map, model, x, y);
        }
    }

    private void proveAndCheck(String at, Random random, WitnessedMap map, Model model, int x, int y) {
        boolean counts = random.nextBoolean();
        int a = random.nextInt(10) == 0 ? x : Math.min(x, y);
        int b = Math.max(x, y);
        Expect.same(at + " prove", map.prove(a, b, counts), model.prove(a, b, counts));
        Expect.same(at + " tokens", tokensOf(map, model.proof.size()), tokensOf(model, model.proof.size()));
        int tamper = random.nextInt(3 * model.proof.size() + 1);
        int bit = 1 << random.nextInt(32);
        map.alter(tamper, map.token(tamper) ^ bit);
        model.alter(tamper, model.token(tamper) ^ bit);
        ask(at, map, model, model.root(), a, b);
        ask(at, map, model, model.root(), a + random.nextInt(3) - 1, b + random.nextInt(3) - 1);
    }

    private static int[] tokensOf(WitnessedMap map, int length) {
        int[] tokens = new int[length + 2];
        for (int i = 0; i < tokens.length; i++) {
            tokens[i] = map.token(i);
        }
        return tokens;
    }

    private static int[] tokensOf(Model model, int length) {
        int[] tokens = new int[length + 2];
        for (int i = 0; i < tokens.length; i++) {
            tokens[i] = model.token(i);
        }
        return tokens;
    }

    private void ask(String at, WitnessedMap map, Model model, int digest, int a, int b) {
        int check = model.check(digest, a, b);
        int count = model.count(digest, a, b);
        Expect.same(at + " check", map.check(digest, a, b), check);
        Expect.same(at + " count", map.count(digest, a, b), count);
        for (int i = -1; i <= Math.max(check, 3); i++) {
            Expect.same(at + " row's key", map.row(i, 0), model.row(i, 0));
            Expect.same(at + " row's value", map.row(i, 1), model.row(i, 1));
        }
        rightChecks += check >= 0 ? 1 : 0;
        rightCounts += count >= 0 ? 1 : 0;
    }

    /** A tree that no map may have, its proof for some range, perhaps spoilt, with the right digest. */
    private void forgery(int seed) {
        Random random = new Random(-seed);
        int fan = 3 + random.nextInt(3);
        int[] key = {random.nextInt(10) == 0 ? Integer.MIN_VALUE : -random.nextInt(20)};
        Shape tree = forged(random, fan, 1, key);
        int a = random.nextInt(20) == 0 ? Integer.MIN_VALUE : random.nextInt(60) - 20;
        int b = random.nextInt(20) == 0 ? Integer.MAX_VALUE : a + random.nextInt(40);
        boolean counts = random.nextBoolean();
        Shape proof = Model.proofOf(tree, a, b, counts);
        if (random.nextInt(3) == 0) {
            spoil(random, proof);
        }
        int[] tokens = proof.tokens();
        if (tokens.length > 150) {
            return;
        }
        WitnessedMap map = Maps.withProof(fan, tokens);
        Model model = new Model(fan);
        model.proof = Model.listOf(tokens);
        ask("forgery " + seed, map, model, proof.digest(), a, b);
        ask("forgery " + seed, map, model, proof.digest(), a + random.nextInt(3) - 1, b + random.nextInt(3) - 1);
    }

    private static Shape forged(Random random, int fan, int depth, int[] key) {
        int size = 1 + random.nextInt(random.nextInt(30) == 0 ? fan + 1 : fan);
        if (depth > random.nextInt(8)) {
            Shape leaf = Shape.leaf();
            for (int i = 0; i < size; i++) {
                leaf.entries.add(new int[] {key[0], random.nextInt()});
                key[0] += 1 + random.nextInt(4) - (random.nextInt(60) == 0 ? 1 : 0);
            }
            return leaf;
        }
        List<Shape> children = new ArrayList<>();
        for (int i = 0; i < size; i++) {
            children.add(forged(random, fan, depth + 1, key));
        }
        return Shape.inner(children.toArray(new Shape[0]));
    }

    private static void spoil(Random random, Shape node) {
        if (node.children.isEmpty()) {
            return;
        }
        int i = random.nextInt(node.children.size());
        Shape child = node.children.get(i);
        if (random.nextInt(3) > 0) {
            spoil(random, child);
        } else if (child.kind == Shape.OUT) {
            int told = random.nextBoolean() ? random.nextInt() : child.count() - random.nextInt(3);
            node.children.set(i, Shape.out(child.least() + random.nextInt(3) - 1, child.digest(), told));
        } else {
            node.children.set(i, child.out());
        }
    }
}
