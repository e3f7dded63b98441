import java.util.List;

/** The promises one by one: a test for each sentence, with its ordinary inputs, edges and wrong inputs. */
public final class PromiseTest {
    private static final int LEAST = Integer.MIN_VALUE;
    private static final int LARGEST = Integer.MAX_VALUE;

    private PromiseTest() {
    }

    public static void main(String[] args) {
        Expect.sentence("An object is used for at most 512 calls", PromiseTest::lastCall);
        objects();
        entries();
        questions();
        proofs();
        checks();
        Expect.finish();
    }

    // Promise 1

    private static void objects() {
        Expect.sentence("F is fan if that is 3 .. 5", PromiseTest::fanInRange);
        Expect.sentence("else 4", PromiseTest::fanOutOfRange);
        Expect.sentence("No entries, no proof.", PromiseTest::newObject);
    }

    private static void lastCall() {
        for (int fan = 3; fan <= 5; fan++) {
            WitnessedMap map = Maps.upTo(fan, 60);
            for (int call = 61; call <= 510; call++) {
                map.put(call % 60 + 1, call);
            }
            WitnessedMap fresh = new WitnessedMap(fan);
            for (int key = 1; key <= 60; key++) {
                fresh.put(key, lastCallOf(key));
            }
            Expect.same("the 511th call", map.size(), 60);
            Expect.same("the 512th call", map.root(), fresh.root());
        }
    }

    private static int lastCallOf(int key) {
        int last = 0;
        for (int call = 61; call <= 510; call++) {
            last = call % 60 + 1 == key ? call : last;
        }
        return last;
    }

    private static void fanInRange() {
        for (int fan = 3; fan <= 5; fan++) {
            Expect.same("F entries lie in one leaf", Maps.upTo(fan, fan).height(), 1);
            Expect.same("F + 1 do not", Maps.upTo(fan, fan + 1).height(), 2);
        }
        Expect.tree("fan 4", Maps.upTo(4, 5), Shape.inner(Maps.leaf(1, 2, 3), Maps.leaf(4, 5)));
    }

    private static void fanOutOfRange() {
        for (int fan : new int[] {2, 6, 1, 0, -1, -4, 7, 260, LEAST, LARGEST}) {
            Expect.tree("fan " + fan, Maps.upTo(fan, 4), Maps.leaf(1, 2, 3, 4));
            Expect.tree("fan " + fan, Maps.upTo(fan, 5),
                    Shape.inner(Maps.leaf(1, 2, 3), Maps.leaf(4, 5)));
            Expect.same("a proof with 4 for fan " + fan,
                    Maps.withProof(fan, Maps.leaf(1, 2, 3, 4).tokens()).check(
                            Maps.leaf(1, 2, 3, 4).digest(), 1, 4), 4);
            Expect.same("a proof with 5 for fan " + fan,
                    Maps.withProof(fan, Maps.leaf(1, 2, 3, 4, 5).tokens()).check(
                            Maps.leaf(1, 2, 3, 4, 5).digest(), 1, 4), -1);
        }
    }

    private static void newObject() {
        for (int fan = 3; fan <= 5; fan++) {
            WitnessedMap map = new WitnessedMap(fan);
            Expect.same("size", map.size(), 0);
            Expect.same("height", map.height(), 1);
            Expect.same("root", map.root(), Shape.leaf().digest());
            Expect.same("get", map.get(0), 0);
            Expect.same("within", map.within(LEAST, LARGEST), 0);
            Expect.same("remove", map.remove(0), false);
            Expect.same("token", map.token(0), 0);
            Expect.same("alter", map.alter(0, 1), false);
            Expect.same("trim 1", map.trim(1), false);
            Expect.same("check", map.check(map.root(), 0, 1), -1);
            Expect.same("count", map.count(map.root(), 0, 1), -1);
            Expect.same("row's key", map.row(0, 0), 0);
            Expect.same("row's value", map.row(0, 1), 0);
            Expect.same("trim 0", map.trim(0), true);
        }
        WitnessedMap map = Maps.upTo(3, 10);
        Expect.same("putting makes no proof", map.token(0), 0);
        Expect.same("putting makes no proof, check", map.check(map.root(), 1, 1), -1);
    }

    // Promises 2 and 3

    private static void entries() {
        Expect.sentence("1 if it is new", PromiseTest::putNew);
        Expect.sentence("2 if it was there", PromiseTest::putKnown);
        Expect.sentence("0, refused, if the key is not -9999 .. 9999", PromiseTest::putOutOfRange);
        Expect.sentence("or it is new and there are 60", PromiseTest::putWhenFull);
        Expect.sentence("Removes a key", PromiseTest::removeKnown);
        Expect.sentence("false if it is not there", PromiseTest::removeUnknown);
    }

    private static void putNew() {
        WitnessedMap map = new WitnessedMap(3);
        Expect.same("the first", map.put(7, 1), 1);
        Expect.same("the least key", map.put(-9999, LEAST), 1);
        Expect.same("the largest key", map.put(9999, LARGEST), 1);
        Expect.tree("all three", map, Shape.leaf(-9999, LEAST, 7, 1, 9999, LARGEST));
        map.remove(7);
        Expect.same("again after it was removed", map.put(7, 2), 1);
        Expect.tree("all three again", map, Shape.leaf(-9999, LEAST, 7, 2, 9999, LARGEST));
    }

    private static void putKnown() {
        WitnessedMap map = Maps.of(3, 7, -9999, 9999, 1);
        for (int key : new int[] {-9999, 1, 7, 9999}) {
            Expect.same("another value", map.put(key, 2), 2);
            Expect.same("another value, get", map.get(key), 2);
            Expect.same("the same value", map.put(key, 2), 2);
            Expect.same("0, as for none", map.put(key, 0), 2);
            Expect.same("after 0", map.put(key, 3), 2);
        }
        Expect.same("size", map.size(), 4);
    }

    private static void putOutOfRange() {
        for (int key : new int[] {10000, -10000, LARGEST, LEAST}) {
            WitnessedMap map = Maps.of(3, -9999, 9999);
            Expect.same("put " + key, map.put(key, 1), 0);
            Expect.tree("put " + key, map, Maps.leaf(-9999, 9999));
            Expect.same("put " + key + " into nothing", new WitnessedMap(4).put(key, 1), 0);
            Expect.same("put " + key + " when full", Maps.upTo(5, 60).put(key, 1), 0);
        }
    }

    private static void putWhenFull() {
        for (int fan = 3; fan <= 5; fan++) {
            WitnessedMap map = Maps.upTo(fan, 59);
            Expect.same("new, with 59", map.put(61, 610), 1);
            int root = map.root();
            for (int key : new int[] {60, 62, 0, -9999, 9999}) {
                Expect.same("new, with 60", map.put(key, 1), 0);
                Expect.same("new, with 60, get", map.get(key), 0);
            }
            Expect.same("size", map.size(), 60);
            Expect.same("root", map.root(), root);
            Expect.same("known, with 60", map.put(61, 5), 2);
            Expect.same("known, with 60, get", map.get(61), 5);
            Expect.same("one removed", map.remove(30), true);
            Expect.same("new, with 59 again", map.put(62, 1), 1);
            Expect.same("new, with 60 again", map.put(30, 1), 0);
        }
    }

    private static void removeKnown() {
        for (int fan = 3; fan <= 5; fan++) {
            WitnessedMap map = Maps.upTo(fan, 60);
            for (int i = 0; i < 60; i++) {
                // 37 and 61 have no common divisor, so each key comes once.
                int key = (i + 1) * 37 % 61;
                Expect.same("remove " + key, map.remove(key), true);
                Expect.same("removed " + key, map.get(key), 0);
                Expect.same("size", map.size(), 59 - i);
            }
            Expect.tree("all", map, Shape.leaf());
        }
    }

    private static void removeUnknown() {
        WitnessedMap map = Maps.of(3, 10, 20, 30, 40);
        for (int key : new int[] {9, 11, 29, 31, 41, -9999, 9999, -10000, 10000, LEAST, LARGEST}) {
            Expect.same("remove " + key, map.remove(key), false);
        }
        Expect.same("a key", map.remove(20), true);
        Expect.same("the same once more", map.remove(20), false);
        Expect.tree("what is left", map, Maps.leaf(10, 30, 40));
        for (int key : new int[] {0, LEAST, LARGEST}) {
            Expect.same("remove from nothing", new WitnessedMap(3).remove(key), false);
        }
    }

    // Promises 4 to 8

    private static void questions() {
        Expect.sentence("The value of a key", PromiseTest::getKnown);
        Expect.sentence("0 if it is not there", PromiseTest::getUnknown);
        Expect.sentence("How many entries there are.", PromiseTest::sizes);
        Expect.sentence("How many nodes lie above one another, the root and a leaf among them.",
                PromiseTest::heights);
        Expect.sentence("The digest of the root.", PromiseTest::roots);
        Expect.sentence("How many entries have keys from a to b.", PromiseTest::withins);
    }

    private static void getKnown() {
        for (int fan = 3; fan <= 5; fan++) {
            WitnessedMap map = Maps.upTo(fan, 60);
            for (int key = 1; key <= 60; key++) {
                Expect.same("get " + key, map.get(key), 10 * key);
            }
            map.put(4, -1);
            Expect.same("replaced", map.get(4), -1);
        }
    }

    private static void getUnknown() {
        WitnessedMap map = Maps.of(3, 10, 20, 30, 40, 50, 60, 70, 80);
        for (int key : new int[] {9, 11, 49, 51, 81, -9999, 9999, -10000, 10000, LEAST, LARGEST}) {
            Expect.same("get " + key, map.get(key), 0);
        }
        map.remove(40);
        Expect.same("removed", map.get(40), 0);
        Expect.same("of nothing", new WitnessedMap(5).get(0), 0);
        map = Maps.of(4, 10);
        map.remove(10);
        Expect.same("the only one removed", map.get(10), 0);
    }

    private static void sizes() {
        WitnessedMap map = new WitnessedMap(3);
        Expect.same("none", map.size(), 0);
        for (int key = 1; key <= 60; key++) {
            map.put(key, 0);
            Expect.same("size", map.size(), key);
        }
        map.put(61, 1);
        Expect.same("after a refused one", map.size(), 60);
        map.put(5, 9);
        Expect.same("after a known key", map.size(), 60);
        map.remove(5);
        Expect.same("after remove", map.size(), 59);
        map.remove(5);
        Expect.same("after no remove", map.size(), 59);
    }

    private static void heights() {
        Expect.same("of nothing", new WitnessedMap(3).height(), 1);
        int[][] firstOfHeight = {{4, 8, 16, 32}, {5, 14, 41}, {6, 18, 54}};
        for (int fan = 3; fan <= 5; fan++) {
            int height = 1;
            for (int size : firstOfHeight[fan - 3]) {
                Expect.same("before " + size, Maps.upTo(fan, size - 1).height(), height);
                Expect.same("with " + size, Maps.upTo(fan, size).height(), height + 1);
                height++;
            }
            Expect.same("of 60", Maps.upTo(fan, 60).height(), height);
        }
        WitnessedMap map = Maps.upTo(3, 32);
        map.remove(32);
        Expect.same("one lower again", map.height(), 4);
    }

    private static void roots() {
        Expect.same("of nothing", new WitnessedMap(5).root(), 0);
        Expect.same("of a leaf", Maps.upTo(3, 3).root(), Maps.leaf(1, 2, 3).digest());
        Expect.same("of an inner root", Maps.upTo(3, 4).root(),
                Shape.inner(Maps.leaf(1, 2), Maps.leaf(3, 4)).digest());
        WitnessedMap map = Maps.upTo(3, 4);
        map.remove(4);
        Expect.same("of the root that is left", map.root(), Maps.leaf(1, 2, 3).digest());
    }

    private static void withins() {
        WitnessedMap map = Maps.of(3, 10, 20, 30, 40, 50, 60, 70, 80);
        Expect.same("both ends are in it", map.within(20, 50), 4);
        Expect.same("one less in front", map.within(21, 50), 3);
        Expect.same("one less behind", map.within(20, 49), 3);
        Expect.same("a is b, an entry", map.within(50, 50), 1);
        Expect.same("a is b, none", map.within(51, 51), 0);
        Expect.same("between two", map.within(51, 59), 0);
        Expect.same("above all", map.within(81, LARGEST), 0);
        Expect.same("below all", map.within(LEAST, 9), 0);
        Expect.same("up to the first", map.within(LEAST, 10), 1);
        Expect.same("from the last", map.within(80, LARGEST), 1);
        Expect.same("all ints", map.within(LEAST, LARGEST), 8);
        Expect.same("a above b", map.within(50, 20), 0);
        Expect.same("a one above b", map.within(51, 50), 0);
        Expect.same("a far above b", map.within(LARGEST, LEAST), 0);
        Expect.same("the least int", map.within(LEAST, LEAST), 0);
        Expect.same("the largest int", map.within(LARGEST, LARGEST), 0);
        Expect.same("of nothing", new WitnessedMap(3).within(LEAST, LARGEST), 0);
        Expect.same("of 60", Maps.upTo(3, 60).within(1, 60), 60);
        Expect.same("of the ends", Maps.of(4, -9999, 9999).within(-9999, 9999), 2);
    }

    // Promises 9 to 12

    private static void proofs() {
        Expect.sentence("in place of the one before", PromiseTest::proveReplaces);
        Expect.sentence("how many tokens it has", PromiseTest::proveAnswers);
        Expect.sentence("-1, refused, if a is above b", PromiseTest::proveRefuses);
        Expect.sentence("Token i of the proof", PromiseTest::tokens);
        Expect.sentence("0 if there is none", PromiseTest::noToken);
        Expect.sentence("Token i of the proof is changed to v", PromiseTest::alters);
        Expect.sentence("false if there is none", PromiseTest::altersNone);
        Expect.sentence("The proof has only its first n tokens left", PromiseTest::trims);
        Expect.sentence("false if it has not so many", PromiseTest::trimsTooMany);
        Expect.sentence("or n is below 0", PromiseTest::trimsBelowNone);
    }

    private static void proveReplaces() {
        WitnessedMap map = Maps.upTo(3, 10);
        int longest = map.prove(1, 10, false);
        int length = map.prove(4, 4, false);
        Expect.same("a shorter one", length, 18);
        for (int i = length; i < longest; i++) {
            Expect.same("nothing of the longer one", map.token(i), 0);
        }
        Expect.same("the shorter one, check", map.check(map.root(), 4, 4), 1);
        map.alter(0, 7);
        map.trim(1);
        Expect.same("one that is spoilt", map.prove(1, 10, false), longest);
        Expect.same("one that is spoilt, check", map.check(map.root(), 1, 10), 10);
        int root = map.root();
        map.put(4, 1);
        Expect.same("it stays when the map changes", map.check(root, 1, 10), 10);
        Expect.same("and is not of the new root", map.check(map.root(), 1, 10), -1);
    }

    private static void proveAnswers() {
        Expect.same("of nothing", new WitnessedMap(3).prove(0, 0, false), 2);
        Expect.same("of one", Maps.of(3, 7).prove(0, 0, true), 4);
        // Three inner nodes have 2 each; of five leaves two, or one, are shown with 6, the others have 4.
        Expect.same("of ten, rows", Maps.upTo(3, 10).prove(3, 5, false), 6 + 2 * 6 + 3 * 4);
        Expect.same("of ten, count", Maps.upTo(3, 10).prove(3, 5, true), 6 + 6 + 4 * 4);
        Expect.same("of 60, with LOW in most nodes", Maps.upTo(3, 60).prove(LEAST, LARGEST, false), 232);
        Expect.same("one number", Maps.upTo(3, 10).prove(4, 4, false), 18);
    }

    private static void proveRefuses() {
        for (boolean counts : new boolean[] {false, true}) {
            WitnessedMap map = Maps.upTo(3, 10);
            int[] before = Maps.proof(map, 3, 5, counts);
            Expect.same("one above", map.prove(5, 4, counts), -1);
            // The differences wrap below 0, so they would not tell which is above.
            Expect.same("far above", map.prove(LARGEST, LEAST, !counts), -1);
            Expect.same("0 above the least", map.prove(0, LEAST, counts), -1);
            for (int i = 0; i < before.length; i++) {
                Expect.same("token after a refused prove", map.token(i), before[i]);
            }
            Expect.same("token behind", map.token(before.length), 0);
            Expect.same("a is b", map.prove(4, 4, counts) > 0, true);
            Expect.same("the least to the largest", map.prove(LEAST, LARGEST, counts) > 0, true);
        }
        WitnessedMap fresh = new WitnessedMap(3);
        Expect.same("in a new object", fresh.prove(1, 0, false), -1);
        Expect.same("still no proof", fresh.token(0), 0);
    }

    private static void tokens() {
        WitnessedMap map = Maps.of(4, 7);
        map.prove(0, 9, false);
        int[] due = {1, 1, 7, 70};
        for (int i = 0; i < due.length; i++) {
            Expect.same("token " + i, map.token(i), due[i]);
        }
        WitnessedMap longest = Maps.upTo(3, 60);
        int length = longest.prove(1, 60, false);
        Expect.same("the last of the longest", longest.token(length - 1), 600);
        Expect.same("the one behind", longest.token(length), 0);
    }

    private static void noToken() {
        WitnessedMap map = Maps.of(4, 7);
        for (int i : new int[] {-1, 0, 4, 240, LEAST, LARGEST}) {
            Expect.same("no proof, " + i, map.token(i), 0);
        }
        map.prove(0, 9, false);
        for (int i : new int[] {-1, -4, 4, 5, 239, 240, 241, LEAST, LARGEST}) {
            Expect.same("token " + i, map.token(i), 0);
        }
        map.trim(3);
        Expect.same("trimmed away", map.token(3), 0);
        Expect.same("the last that is left", map.token(2), 7);
    }

    private static void alters() {
        WitnessedMap map = Maps.of(4, 7);
        int length = map.prove(0, 9, false);
        int root = map.root();
        for (int i = 0; i < length; i++) {
            int was = map.token(i);
            for (int v : new int[] {was + 1, LEAST, LARGEST}) {
                Expect.same("alter " + i, map.alter(i, v), true);
                Expect.same("altered " + i, map.token(i), v);
                Expect.same("altered, check", map.check(root, 0, 9), -1);
            }
            Expect.same("alter back " + i, map.alter(i, was), true);
            Expect.same("to what it is", map.alter(i, was), true);
            Expect.same("altered back, check", map.check(root, 0, 9), 1);
        }
        map.alter(3, 71);
        Expect.same("the map stays, root", map.root(), root);
        Expect.same("the map stays, get", map.get(7), 70);
    }

    private static void altersNone() {
        WitnessedMap map = Maps.of(4, 7);
        Expect.same("no proof", map.alter(0, 9), false);
        map.prove(0, 9, false);
        for (int i : new int[] {-1, 4, 5, 239, 240, 300, LEAST, LARGEST}) {
            Expect.same("alter " + i, map.alter(i, 9), false);
            Expect.same("not altered " + i, map.token(i), 0);
        }
        map.trim(3);
        Expect.same("trimmed away", map.alter(3, 9), false);
        map.trim(0);
        Expect.same("all trimmed away", map.alter(0, 9), false);
    }

    private static void trims() {
        WitnessedMap map = Maps.upTo(3, 10);
        int length = map.prove(3, 5, false);
        Expect.same("to all", map.trim(length), true);
        Expect.same("to all, check", map.check(map.root(), 3, 5), 3);
        int last = map.token(length - 2);
        Expect.same("by one", map.trim(length - 1), true);
        Expect.same("by one, the last", map.token(length - 2), last);
        Expect.same("by one, behind it", map.token(length - 1), 0);
        Expect.same("by one, check", map.check(map.root(), 3, 5), -1);
        Expect.same("by one, not back", map.trim(length), false);
        Expect.same("to one", map.trim(1), true);
        Expect.same("to one, the first", map.token(0), 2);
        Expect.same("to one, behind it", map.token(1), 0);
        Expect.same("to none", map.trim(0), true);
        Expect.same("to none, token", map.token(0), 0);
        Expect.same("to none, check", map.check(map.root(), 3, 5), -1);
        Expect.same("to none again", map.trim(0), true);
    }

    private static void trimsTooMany() {
        WitnessedMap map = Maps.upTo(3, 10);
        int length = map.prove(3, 5, false);
        for (int n : new int[] {length + 1, 240, 241, LARGEST}) {
            Expect.same("trim " + n, map.trim(n), false);
            Expect.same("trim " + n + ", check", map.check(map.root(), 3, 5), 3);
        }
        Expect.same("token behind", map.token(length), 0);
        WitnessedMap fresh = new WitnessedMap(3);
        Expect.same("no proof", fresh.trim(1), false);
        Expect.same("no proof", fresh.trim(LARGEST), false);
    }

    private static void trimsBelowNone() {
        WitnessedMap map = Maps.upTo(3, 10);
        map.prove(3, 5, false);
        for (int n : new int[] {-1, -28, LEAST}) {
            Expect.same("trim " + n, map.trim(n), false);
            Expect.same("trim " + n + ", check", map.check(map.root(), 3, 5), 3);
        }
        Expect.same("no proof", new WitnessedMap(3).trim(-1), false);
    }

    // Promises 13 to 16

    private static void checks() {
        Expect.sentence("how many rows it shows", PromiseTest::checkAnswers);
        Expect.sentence("Checks the proof for rows", PromiseTest::checkIsOfItsRange);
        Expect.sentence("-1 if it is not right, or a is above b", PromiseTest::wrongChecks);
        Expect.sentence("Checks the proof for a count with a digest: the count", PromiseTest::countAnswers);
        Expect.sentence("-1 if it is not right, or a is above b", PromiseTest::wrongCounts);
        Expect.sentence("Row i of the last call of check (not count) that did not answer -1",
                PromiseTest::rowsOfTheLastRightCheck);
        Expect.sentence("its key (of 0) or value (of 1)", PromiseTest::rowsKeyOrValue);
        Expect.sentence("0 if there is none", PromiseTest::noRow);
        Expect.sentence("The digest of three numbers after a digest h", PromiseTest::digests);
        Expect.sentence("a digest of many is made from h = 1, three by three", PromiseTest::digestsOfMany);
    }

    private static void checkAnswers() {
        for (int fan = 3; fan <= 5; fan++) {
            WitnessedMap map = Maps.upTo(fan, 50);
            map.prove(20, 30, false);
            Expect.same("eleven", map.check(map.root(), 20, 30), 11);
            map.prove(60, 70, false);
            Expect.same("none", map.check(map.root(), 60, 70), 0);
            map.prove(30, 30, false);
            Expect.same("one", map.check(map.root(), 30, 30), 1);
            map = Maps.upTo(fan, 60);
            map.prove(LEAST, LARGEST, false);
            Expect.same("all 60", map.check(map.root(), LEAST, LARGEST), 60);
            Expect.same("the last of 60", map.row(59, 1), 600);
        }
        WitnessedMap empty = new WitnessedMap(3);
        empty.prove(1, 2, false);
        Expect.same("of nothing", empty.check(empty.root(), 1, 2), 0);
        empty.put(1, 1);
        Expect.same("of the nothing that was", empty.check(0, LEAST, LARGEST), 0);
    }

    private static void checkIsOfItsRange() {
        WitnessedMap map = Maps.of(3, 0, 5, 10, 20, 30, 40);
        map.prove(12, 15, false);
        Expect.same("another range of the same spans", map.check(map.root(), 10, 29), 2);
        Expect.same("a range that needs one more at the end", map.check(map.root(), 10, 30), -1);
        Expect.same("a range that needs one more in front", map.check(map.root(), 9, 29), -1);
        Expect.same("a range of another leaf", map.check(map.root(), 30, 31), -1);
        map.prove(9, 12, false);
        Expect.same("a range that needs less", map.check(map.root(), 10, 12), -1);
        map.prove(10, 29, true);
        Expect.same("rows by a proof of a count", map.check(map.root(), 10, 29), -1);
        map.prove(9, 9, true);
        Expect.same("rows by a proof of a count that shows the same", map.check(map.root(), 9, 9), 0);
    }

    private static void wrongChecks() {
        WitnessedMap map = Maps.upTo(3, 50);
        map.prove(20, 30, false);
        Expect.same("another digest", map.check(map.root() + 1, 20, 30), -1);
        Expect.same("a one above b", map.check(map.root(), 21, 20), -1);
        Expect.same("a above b", map.check(map.root(), 30, 20), -1);
        Expect.same("a far above b", map.check(map.root(), LARGEST, LEAST), -1);
        Expect.same("right still", map.check(map.root(), 20, 30), 11);
        WitnessedMap empty = new WitnessedMap(3);
        Expect.same("no proof", empty.check(empty.root(), 1, 2), -1);
        empty.prove(1, 2, false);
        Expect.same("of nothing, a above b", empty.check(empty.root(), 2, 1), -1);
        Expect.same("of nothing, another digest", empty.check(1, 1, 2), -1);
        // A leaf is shown whole whatever is asked for, so nothing but a above b refuses this.
        WitnessedMap leaf = Maps.upTo(3, 3);
        leaf.prove(1, 3, false);
        Expect.same("of a leaf, a above b", leaf.check(leaf.root(), 3, 1), -1);
    }

    private static void countAnswers() {
        for (int fan = 3; fan <= 5; fan++) {
            WitnessedMap map = Maps.upTo(fan, 50);
            map.prove(5, 44, true);
            Expect.same("forty", map.count(map.root(), 5, 44), 40);
            map.prove(-20000, 20000, true);
            Expect.same("all", map.count(map.root(), -20000, 20000), 50);
            map.prove(LEAST, LARGEST, true);
            Expect.same("all ints", map.count(map.root(), LEAST, LARGEST), 50);
            map.prove(51, 51, true);
            Expect.same("none", map.count(map.root(), 51, 51), 0);
            map.prove(50, 50, true);
            Expect.same("one", map.count(map.root(), 50, 50), 1);
        }
        WitnessedMap empty = new WitnessedMap(3);
        empty.prove(1, 2, true);
        Expect.same("of nothing", empty.count(empty.root(), 1, 2), 0);
    }

    private static void wrongCounts() {
        WitnessedMap map = Maps.of(3, 0, 5, 10, 20, 30, 40);
        map.prove(5, 39, true);
        Expect.same("another digest", map.count(map.root() + 1, 5, 39), -1);
        Expect.same("a one above b", map.count(map.root(), 6, 5), -1);
        Expect.same("a far above b", map.count(map.root(), LARGEST, LEAST), -1);
        Expect.same("right still", map.count(map.root(), 5, 39), 4);
        map.prove(10, 29, false);
        Expect.same("by a proof of rows", map.count(map.root(), 10, 29), -1);
        map.prove(10, 29, true);
        Expect.same("all left out", map.count(map.root(), 10, 29), 2);
        Expect.same("one less", map.count(map.root(), 10, 28), -1);
        Expect.same("one more", map.count(map.root(), 10, 30), -1);
        WitnessedMap empty = new WitnessedMap(3);
        Expect.same("no proof", empty.count(empty.root(), 1, 2), -1);
        empty.prove(1, 2, true);
        Expect.same("of nothing, a above b", empty.count(empty.root(), 2, 1), -1);
        WitnessedMap leaf = Maps.upTo(3, 3);
        leaf.prove(1, 3, true);
        Expect.same("of a leaf, a above b", leaf.count(leaf.root(), 3, 1), -1);
    }

    private static void rowsOfTheLastRightCheck() {
        WitnessedMap map = Maps.upTo(3, 20);
        map.prove(4, 6, false);
        map.check(map.root(), 4, 6);
        map.check(map.root() + 1, 4, 6);
        Expect.same("after another digest", map.row(1, 0), 5);
        map.check(map.root(), 6, 4);
        Expect.same("after a above b", map.row(1, 0), 5);
        map.prove(9, 9, true);
        Expect.same("count", map.count(map.root(), 9, 9), 1);
        Expect.same("after count", map.row(0, 0), 4);
        Expect.same("after count", map.row(2, 1), 60);
        map.alter(0, 7);
        map.check(map.root(), 9, 9);
        map.put(5, 1);
        map.remove(4);
        map.trim(0);
        map.check(map.root(), 9, 9);
        Expect.same("after changes", map.row(1, 1), 50);
        map.prove(9, 9, false);
        Expect.same("check again", map.check(map.root(), 9, 9), 1);
        Expect.same("of the new check", map.row(0, 1), 90);
        Expect.same("no more of the old one", map.row(1, 0), 0);
        map.prove(70, 70, false);
        Expect.same("a right check without rows", map.check(map.root(), 70, 70), 0);
        Expect.same("none of that", map.row(0, 0), 0);
    }

    private static void rowsKeyOrValue() {
        WitnessedMap map = Maps.upTo(3, 20);
        map.prove(4, 6, false);
        map.check(map.root(), 4, 6);
        for (int i = 0; i < 3; i++) {
            Expect.same("key", map.row(i, 0), 4 + i);
            Expect.same("value", map.row(i, 1), 40 + 10 * i);
        }
        for (int of : new int[] {-1, 2, LEAST, LARGEST}) {
            Expect.same("of " + of, map.row(0, of), 0);
        }
    }

    private static void noRow() {
        WitnessedMap map = Maps.upTo(3, 20);
        Expect.same("before any check", map.row(0, 0), 0);
        map.prove(4, 6, false);
        Expect.same("proved, not checked", map.row(0, 0), 0);
        map.count(map.root(), 4, 6);
        Expect.same("counted, not checked", map.row(0, 0), 0);
        map.check(map.root() + 1, 4, 6);
        Expect.same("checked with another digest", map.row(0, 0), 0);
        // More rows first, so that something could be left behind the rows of the last check.
        map.prove(1, 20, false);
        Expect.same("many rows", map.check(map.root(), 1, 20), 20);
        Expect.same("the last of many", map.row(19, 0), 20);
        Expect.same("behind the last of many", map.row(20, 0), 0);
        map.prove(4, 6, false);
        Expect.same("few rows", map.check(map.root(), 4, 6), 3);
        for (int i : new int[] {-1, 3, 4, 19, 20, 119, 120, 500, LEAST, LARGEST}) {
            Expect.same("row " + i + " 0", map.row(i, 0), 0);
            Expect.same("row " + i + " 1", map.row(i, 1), 0);
        }
    }

    private static void digests() {
        WitnessedMap map = new WitnessedMap(3);
        Expect.same("1 1 0 0", map.digest(1, 1, 0, 0), 0);
        Expect.same("1 1 1 10", map.digest(1, 1, 1, 10), 738587088);
        Expect.same("ends", map.digest(1, -5, LARGEST, LEAST), Shape.digestOf(List.of(-5, LARGEST, LEAST)));
        // xor is the same either way round, so after h the number x is as after x the number h.
        for (int h : new int[] {0, -1, LEAST, LARGEST}) {
            Expect.same("h of " + h, map.digest(h, 1, 2, 3), Shape.digestOf(List.of(h, 2, 3)));
        }
        Expect.same("by hand", map.digest(3, 1, 33556262, 1), 16778131);
    }

    private static void digestsOfMany() {
        WitnessedMap map = Maps.upTo(3, 4);
        int three = map.digest(1, 1, 2, 3);
        Expect.same("six", map.digest(three, 4, 5, 6), Shape.digestOf(List.of(1, 2, 3, 4, 5, 6)));
        int first = Maps.leaf(1, 2).digest();
        int second = Maps.leaf(3, 4).digest();
        // 2 and the size are two numbers, each child has three: with h of the first two after 1.
        int head = Shape.digestOf(List.of(2, 2));
        Expect.same("a root's", map.digest(map.digest(head, 1, first, 2), 3, second, 2), map.root());
    }
}
