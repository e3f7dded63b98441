/** An object and its model: each call is made on both, and the answers must be the same. */
final class Pair {
    static final int MOST_CALLS = 512;

    final Model model;
    private final WitnessedMap map;
    private final String name;
    private int calls;

    Pair(String name, WitnessedMap map, Model model, int callsBehind) {
        this.name = name;
        this.map = map;
        this.model = model;
        calls = callsBehind;
    }

    /** How many calls the document still promises anything of. */
    int callsLeft() {
        return MOST_CALLS - calls;
    }

    private int same(String call, int got, int due) {
        calls++;
        Expect.same(name + ", call " + calls + ", " + call, got, due);
        return due;
    }

    private boolean same(String call, boolean got, boolean due) {
        return same(call, got ? 1 : 0, due ? 1 : 0) == 1;
    }

    int put(int key, int value) {
        return same("put", map.put(key, value), model.put(key, value));
    }

    boolean remove(int key) {
        return same("remove", map.remove(key), model.remove(key));
    }

    int get(int key) {
        return same("get", map.get(key), model.get(key));
    }

    int size() {
        return same("size", map.size(), model.size());
    }

    int height() {
        return same("height", map.height(), model.height());
    }

    int root() {
        return same("root", map.root(), model.root());
    }

    int within(int a, int b) {
        return same("within", map.within(a, b), model.within(a, b));
    }

    int prove(int a, int b, boolean counts) {
        return same("prove", map.prove(a, b, counts), model.prove(a, b, counts));
    }

    int token(int i) {
        return same("token", map.token(i), model.token(i));
    }

    boolean alter(int i, int v) {
        return same("alter", map.alter(i, v), model.alter(i, v));
    }

    boolean trim(int n) {
        return same("trim", map.trim(n), model.trim(n));
    }

    int check(int digest, int a, int b) {
        return same("check", map.check(digest, a, b), model.check(digest, a, b));
    }

    int count(int digest, int a, int b) {
        return same("count", map.count(digest, a, b), model.count(digest, a, b));
    }

    int row(int i, int of) {
        return same("row", map.row(i, of), model.row(i, of));
    }
}
