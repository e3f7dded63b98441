import java.util.Arrays;

/**
 * "A call that is refused changes nothing.", for every promise: one of two objects with the same
 * calls behind them is asked for what it refuses, and then both must answer alike.
 */
public final class RefusalTest {
    private static final int LEAST = Integer.MIN_VALUE;
    private static final int LARGEST = Integer.MAX_VALUE;
    private static final int FAN = 3;

    private interface State {
        WitnessedMap make();
    }

    private interface Call {
        int on(WitnessedMap map);
    }

    private final String name;
    private final State state;

    private RefusalTest(String name, State state) {
        this.name = name;
        this.state = state;
    }

    public static void main(String[] args) {
        State[] states = {
            () -> new WitnessedMap(FAN), RefusalTest::leaf, RefusalTest::emptied, RefusalTest::full,
            RefusalTest::counted, RefusalTest::spoilt
        };
        String[] names = {"new", "leaf", "emptied", "full", "counted", "spoilt"};
        Expect.sentence("A call that is refused changes nothing.", () -> {
            for (int i = 0; i < states.length; i++) {
                new RefusalTest(names[i], states[i]).refusals();
            }
        });
        Expect.finish();
    }

    // The states: each has a proof or none, and rows or none.

    private static WitnessedMap leaf() {
        WitnessedMap map = Maps.upTo(FAN, 3);
        map.prove(2, 3, false);
        map.check(map.root(), 2, 3);
        return map;
    }

    private static WitnessedMap emptied() {
        WitnessedMap map = leaf();
        for (int key = 1; key <= 3; key++) {
            map.remove(key);
        }
        map.prove(2, 3, true);
        return map;
    }

    private static WitnessedMap full() {
        WitnessedMap map = Maps.upTo(FAN, 60);
        map.prove(20, 30, false);
        map.check(map.root(), 20, 30);
        return map;
    }

    private static WitnessedMap counted() {
        WitnessedMap map = full();
        map.prove(10, 50, true);
        map.count(map.root(), 10, 50);
        return map;
    }

    private static WitnessedMap spoilt() {
        WitnessedMap map = full();
        map.alter(5, 77);
        map.trim(20);
        return map;
    }

    // The calls that are refused in all states.

    private void refusals() {
        puts();
        removes();
        proofs();
        checks();
        questions();
    }

    private void puts() {
        for (int key : new int[] {10000, -10000, LARGEST, LEAST}) {
            refused("put " + key, map -> map.put(key, 7), 0);
        }
        if (state.make().size() == 60) {
            for (int key : new int[] {0, 61, -9999, 9999}) {
                refused("put " + key, map -> map.put(key, 7), 0);
            }
        }
    }

    private void removes() {
        for (int key : new int[] {0, 61, -9999, 9999, 10000, LEAST, LARGEST}) {
            refused("remove " + key, map -> map.remove(key) ? 1 : 0, 0);
        }
    }

    private void proofs() {
        for (int a : new int[] {1, 60, LARGEST}) {
            refused("prove rows", map -> map.prove(a, a - 1, false), -1);
            refused("prove a count", map -> map.prove(a, LEAST, true), -1);
        }
        int length = lengthOf(state.make());
        for (int i : new int[] {-1, length, length + 1, 239, 240, LEAST, LARGEST}) {
            refused("alter " + i, map -> map.alter(i, 7) ? 1 : 0, 0);
        }
        for (int n : new int[] {-1, length + 1, 240, LEAST, LARGEST}) {
            refused("trim " + n, map -> map.trim(n) ? 1 : 0, 0);
        }
    }

    /** The largest n that a proof can be trimmed to is the length that it has. */
    private static int lengthOf(WitnessedMap map) {
        int n = 240;
        while (n > 0 && !map.trim(n)) {
            n--;
        }
        return n;
    }

    private void checks() {
        for (int digest : new int[] {12345, LEAST, LARGEST}) {
            refused("check with " + digest, map -> map.check(digest, 20, 30), -1);
            refused("count with " + digest, map -> map.count(digest, 10, 50), -1);
        }
        refused("check, a above b", map -> map.check(map.root(), 30, 20), -1);
        refused("count, a above b", map -> map.count(map.root(), 50, 10), -1);
        refused("check, a far above b", map -> map.check(map.root(), LARGEST, LEAST), -1);
        refused("count, a far above b", map -> map.count(map.root(), LARGEST, LEAST), -1);
        if (state.make().size() == 60) {
            refused("check of another range", map -> map.check(map.root(), 1, 60), -1);
            refused("count of another range", map -> map.count(map.root(), 1, 60), -1);
        }
    }

    /** What only asks is refused nothing, but must not change anything either. */
    private void questions() {
        for (int x : new int[] {-1, 0, 61, 240, 10000, LEAST, LARGEST}) {
            refused("get " + x, map -> map.get(x), 0);
            refused("token behind", map -> map.token(x < 0 ? x : Math.max(x, 240)), 0);
            refused("row " + x, map -> map.row(x < 0 ? x : Math.max(x, 120), 0), 0);
            refused("row 0 of " + x, map -> map.row(0, x < 0 ? x : Math.max(x, 2)), 0);
        }
        refused("within, a above b", map -> map.within(60, 1), 0);
        refused("digest", map -> map.digest(1, 1, 0, 0), 0);
    }

    private void refused(String what, Call call, int due) {
        WitnessedMap asked = state.make();
        WitnessedMap other = state.make();
        Expect.same(name + ", " + what, call.on(asked), due);
        Expect.same(name + ", " + what + ", a second time", call.on(asked), due);
        Expect.same(name + ", after " + what, lookAt(asked), lookAt(other));
        asked = state.make();
        other = state.make();
        call.on(asked);
        Expect.same(name + ", going on after " + what, goOn(asked), goOn(other));
    }

    /** All that can be seen of an object, without changing it, in fewer than 512 calls. */
    private static int[] lookAt(WitnessedMap map) {
        int[] seen = new int[400];
        int n = 0;
        seen[n++] = map.size();
        seen[n++] = map.height();
        seen[n++] = map.root();
        seen[n++] = map.within(LEAST, LARGEST);
        for (int i = 0; i < 234; i++) {
            seen[n++] = map.token(i);
        }
        for (int i = 0; i < 13; i++) {
            seen[n++] = map.row(i, 0);
            seen[n++] = map.row(i, 1);
        }
        for (int key = -1; key <= 62; key++) {
            seen[n++] = map.get(key);
        }
        seen[n++] = map.get(-9999);
        seen[n++] = map.get(9999);
        return Arrays.copyOf(seen, n);
    }

    /** What comes of calls that change an object, in fewer than 512 calls. */
    private static int[] goOn(WitnessedMap map) {
        int[] seen = new int[400];
        int n = 0;
        seen[n++] = map.check(map.root(), 20, 30);
        seen[n++] = map.count(map.root(), 10, 50);
        seen[n++] = map.row(2, 1);
        for (int key = 1; key <= 60; key += 7) {
            seen[n++] = map.remove(key) ? 1 : 0;
            seen[n++] = map.put(key + 100, key);
            seen[n++] = map.root();
        }
        seen[n++] = map.prove(30, 105, true);
        seen[n++] = map.count(map.root(), 30, 105);
        seen[n++] = map.prove(LEAST, LARGEST, false);
        seen[n++] = map.check(map.root(), LEAST, LARGEST);
        for (int i = 0; i < 234; i++) {
            seen[n++] = map.token(i);
        }
        return Arrays.copyOf(seen, n);
    }
}
