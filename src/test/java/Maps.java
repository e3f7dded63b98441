/** Maps that are filled, looked into and given foreign proofs through their public face alone. */
final class Maps {
    private Maps() {
    }

    /** A map with these keys, put in this order, each with ten times itself as its value. */
    static WitnessedMap of(int fan, int... keys) {
        WitnessedMap map = new WitnessedMap(fan);
        for (int key : keys) {
            map.put(key, 10 * key);
        }
        return map;
    }

    static WitnessedMap upTo(int fan, int last) {
        WitnessedMap map = new WitnessedMap(fan);
        for (int key = 1; key <= last; key++) {
            map.put(key, 10 * key);
        }
        return map;
    }

    /** A leaf as such a map has it. */
    static Shape leaf(int... keys) {
        int[] keysAndValues = new int[2 * keys.length];
        for (int i = 0; i < keys.length; i++) {
            keysAndValues[2 * i] = keys[i];
            keysAndValues[2 * i + 1] = 10 * keys[i];
        }
        return Shape.leaf(keysAndValues);
    }

    static int[] proof(WitnessedMap map, int a, int b, boolean counts) {
        int[] tokens = new int[map.prove(a, b, counts)];
        for (int i = 0; i < tokens.length; i++) {
            tokens[i] = map.token(i);
        }
        return tokens;
    }

    /** The proof of rows for all keys leaves nothing out, so it shows the whole tree. */
    static int[] wholeTree(WitnessedMap map) {
        return proof(map, -20000, 20000, false);
    }

    /** A new map whose proof has these tokens. */
    static WitnessedMap withProof(int fan, int... tokens) {
        WitnessedMap map = upTo(fan, 60);
        int most = map.prove(-20000, 20000, false);
        if (tokens.length > most) {
            throw new IllegalArgumentException("more tokens than a proof can be given: " + tokens.length);
        }
        for (int i = 0; i < tokens.length; i++) {
            map.alter(i, tokens[i]);
        }
        map.trim(tokens.length);
        return map;
    }
}
