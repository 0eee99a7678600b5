/** The sentences of promises 1 to 8: a new object, codes of keys, finding, the present keys. */
final class KeyEdges extends Edges {
    /**
     * Pairs of keys with the same tag, whose bodies differ in one bit alone: the bit, the seed, the keys. So the
     * entry of one finds the other just if the bit lies behind those of the home and of the fingerprint.
     */
    static final int[][] PAIRS = {{0, 2, 54, 121}, {1, 0, 140, 397}, {2, 32, 35, 940}, {3, 0, 667, 761},
        {4, 46, 16, 986}, {5, 4, 144, 194}, {6, 1, 99, 542}, {7, 1, 49, 814}, {8, 7, 488, 693}, {9, 15, 149, 999},
        {10, 60, 188, 563}, {11, 0, 278, 482}, {12, 0, 120, 972}, {13, 0, 397, 880}};


    static void all() {
        newObject();
        calls();
        keys();
        codes();
        buckets();
        matching();
        finding();
        places();
        presentKeys();
    }

    private static void newObject() {
        edge(1, "Creates a filter with the initial numbers, without keys", () -> {
            CuckooAudit x = new CuckooAudit();
            int[] initial = {4, 2, 5, 0, 10, 0, 0, NONE, 1};
            for (int what = 0; what < initial.length; what++) {
                due("info(" + what + ")", x.info(what), initial[what]);
            }
            due("the slots", layout(x), "-/- -/- -/- -/-");
            due("count", x.count(), 0);
            refused("present(0)", POSITION, CuckooAudit::new, y -> y.present(0));
            refused("stashed(0, 0)", POSITION, CuckooAudit::new, y -> y.stashed(0, 0));
        });
        edge(1, "the text is empty, no state is saved", () -> {
            due("execute", new CuckooAudit().execute(), 0);
            due("clearText", new CuckooAudit().clearText(), 0);
            refused("undo", STATE, CuckooAudit::new, CuckooAudit::undo);
        });
        edge(1, "where b is 1 to 6 (initially 2) and s is 1 to 4 (initially 2), a fingerprint length f from 1 to 8"
                + " (initially 5), a seed from 0 to 99 (initially 0), a walk limit from 0 to 50 (initially 10)", () -> {
            CuckooAudit x = new CuckooAudit();
            due("the highest limit", x.setLimit(50), 10);
            due("the lowest limit", x.setLimit(0), 50);
            due("the lowest numbers", x.rebuild(1, 1, 1, 0), 0);
            due("they", numbersOf(x), "2 1 1 0 0");
            due("the highest numbers", x.rebuild(6, 4, 8, 99), 0);
            due("they", numbersOf(x), "64 4 8 99 0");
        });
        edge(1, "The constants: - `NONE = -1`: There is no such thing.", () -> {
            due("NONE", CuckooAudit.NONE, -1);
        });
        edge(1, "A cuckoo filter that can be audited: keys are remembered as short fingerprints in buckets, with two"
                + " buckets for each key, eviction walks with a limit, a small stash, deletion, and doubling, by which"
                + " each fingerprint gives a bit to the bucket number. Besides the filter an exact list of the keys is"
                + " kept, so that all false answers can be counted. Other seeds are tried, walks are predicted,"
                + " commands are read from a text, and changes can be undone.", () -> {
            CuckooAudit x = with(2, 1, 5, 5, 2, 7);
            due("a walk is predicted and made", x.walk(17) + " " + x.add(17), "3 3");
            due("the stash is used", x.add(1) + " " + x.add(365), "100 100");
            due("false keys", x.falseKeys(0, 999) + " " + x.falseKey(0), "3 684");
            due("other seeds", x.bestSeed(4), 2);
            write(x, "-17;*;");
            due("a deletion and doubling", x.execute() + " " + layout(x), "2 30' 45 44' - 3' - - 13");
            due("it is undone", x.undo() + " " + keysOf(x), "3 5 2 7 17 1 365");
        });
        edge(1, "Creates a filter", () -> {
            CuckooAudit first = busy();
            CuckooAudit second = new CuckooAudit();
            due("a second object", allOf(second), allOf(new CuckooAudit()));
            due("the first one behind it", allOf(first), allOf(busy()));
        });
    }

    private static void calls() {
        edge(1, "An object is used for at most 512 calls after it has been made; what later calls answer is free.",
                () -> {
            CuckooAudit x = new CuckooAudit();
            for (int i = 0; i < 510; i++) {
                x.setLimit(i % 51);
            }
            due("call 511", x.setLimit(7), 509 % 51);
            due("call 512", x.undo(), 3);
            CuckooAudit y = new CuckooAudit();
            for (int i = 0; i < 255; i++) {
                y.add(i);
                y.delete(i);
            }
            due("call 511", y.add(5), 0);
            due("call 512", y.count(), 1);
            CuckooAudit z = new CuckooAudit();
            for (int i = 0; i < 5; i++) {
                write(z, "*".repeat(100));
                z.clearText();
            }
            write(z, "+000;*");
            due("call 512", z.execute(), -16);
        });
    }

    private static void keys() {
        edge(2, KEY_RANGE, () -> due("0 and 999", fresh().tag(0) + " " + fresh().tag(999), "35 13"));
        edge(3, KEY_RANGE, () -> due("0 and 999", fresh().body(0) + " " + fresh().body(999), "1918 5370"));
        edge(4, KEY_RANGE, () -> {
            due("homes of 0 and 999", fresh().bucket(0, false) + " " + fresh().bucket(999, false), "2 2");
            due("others of 0 and 999", fresh().bucket(0, true) + " " + fresh().bucket(999, true), "1 3");
        });
        edge(5, KEY_RANGE, () -> {
            due("0 and 999 by 0", with(2, 2, 5, 0).found(0) + " " + with(2, 2, 5, 0).found(999), "true false");
            due("0 and 999 by 999", with(2, 2, 5, 999).found(0) + " " + with(2, 2, 5, 999).found(999), "false true");
        });
        edge(6, KEY_RANGE, () -> {
            due("0 and 999", with(2, 2, 5, 0, 999).place(0) + " " + with(2, 2, 5, 0, 999).place(999), "8 9");
        });
        edge(2, KEY_OUT_OF_RANGE, () -> refusesOtherKeys((x, key) -> x.tag(key)));
        edge(3, KEY_OUT_OF_RANGE, () -> refusesOtherKeys((x, key) -> x.body(key)));
        edge(4, KEY_OUT_OF_RANGE, () -> {
            refusesOtherKeys((x, key) -> x.bucket(key, true));
            refusesOtherKeys((x, key) -> x.bucket(key, false));
        });
        edge(5, KEY_OUT_OF_RANGE, () -> refusesOtherKeys((x, key) -> x.found(key)));
        edge(6, KEY_OUT_OF_RANGE, () -> refusesOtherKeys((x, key) -> x.place(key)));
    }

    private static CuckooAudit fresh() {
        return new CuckooAudit();
    }

    private static CuckooAudit withSeed(int bits, int seed) {
        CuckooAudit x = new CuckooAudit();
        x.rebuild(bits, 1, 8, seed);
        return x;
    }

    private static void codes() {
        // Without long arithmetic the products of 6 and 8 would be negative.
        edge(2, "The code of a key x is computed like this, in long arithmetic", () -> {
            due("6 and 8", fresh().tag(6) + " " + fresh().tag(8), "34 1");
            due("0 and 999 with seed 99", withSeed(2, 99).tag(0) + " " + withSeed(2, 99).tag(999), "38 49");
        });
        edge(3, "The code of a key x is computed like this, in long arithmetic", () -> {
            due("6 and 8", fresh().body(6) + " " + fresh().body(8), "3270 12774");
            due("0 and 999 with seed 99", withSeed(2, 99).body(0) + " " + withSeed(2, 99).body(999), "11647 5738");
        });
        edge(2, "v = (x * 48271 + seed * 7919 + 12345) modulo 1048576; then v = v xor (v / 512); then v = (v * 7621 +"
                + " 1) modulo 1048576; then v = v xor (v / 2048) (quotients rounded down).", () -> {
            due("0 with seed 0, v is 575358", fresh().tag(0) + " " + fresh().body(0), "35 1918");
            due("1 with seed 0, v is 505025", fresh().tag(1) + " " + fresh().body(1), "30 13505");
        });
        edge(2, "Returns the tag of a key. Returns the tag.", () -> {
            for (int key = 0; key < 1000; key++) {
                due("tag of " + key, withSeed(2, key % 100).tag(key), tagOf(key, key % 100));
                due("tag of " + key, fresh().tag(key), tagOf(key, 0));
            }
        });
        edge(3, "Returns the body of a key. Returns the body.", () -> {
            for (int key = 0; key < 1000; key++) {
                due("body of " + key, withSeed(2, 99 - key % 100).body(key), bodyOf(key, 99 - key % 100));
                due("body of " + key, fresh().body(key), bodyOf(key, 0));
            }
        });
        edge(2, "The tag of the key is v / 16384 (0 to 63)", () -> {
            due("the lowest tag", fresh().tag(29), 0);
            due("the highest tag", fresh().tag(49), 63);
        });
        edge(3, "its body is v modulo 16384, so it has 14 bits", () -> {
            due("the lowest body", withSeed(2, 13).body(924), 0);
            due("the highest body", fresh().body(505), 16383);
        });
        edge(3, "numbered from 0, the lowest one", () -> {
            for (int[] pair : PAIRS) {
                CuckooAudit x = withSeed(1, pair[1]);
                due("the bit in which " + pair[2] + " and " + pair[3] + " differ", x.body(pair[2]) ^ x.body(pair[3]),
                        1 << pair[0]);
            }
        });
    }

    private static void buckets() {
        edge(4, "The home of a key is its body modulo 2^b.", () -> {
            due("2 buckets", withSeed(1, 0).bucket(505, false) + " " + withSeed(1, 13).bucket(924, false), "1 0");
            due("64 buckets", withSeed(6, 0).bucket(505, false) + " " + withSeed(6, 13).bucket(924, false), "63 0");
            due("key 0 with 2 and 64", withSeed(1, 0).bucket(0, false) + " " + withSeed(6, 0).bucket(0, false), "0 62");
        });
        // The tags 17 (key 93), 55 (114), 62 (47) and 36 (42) have the numbers 0, 62, 1 and 63 modulo 64.
        edge(4, "The step of a tag t is the number ((37 * t + 11) modulo 64), made odd by adding 1 if it is even",
                () -> {
            due("the step of number 0", withSeed(6, 0).bucket(93, true) ^ withSeed(6, 0).bucket(93, false), 1);
            due("the step of number 62", withSeed(6, 0).bucket(114, true) ^ withSeed(6, 0).bucket(114, false), 63);
            due("the step of number 1", withSeed(6, 0).bucket(47, true) ^ withSeed(6, 0).bucket(47, false), 1);
            due("the step of number 63", withSeed(6, 0).bucket(42, true) ^ withSeed(6, 0).bucket(42, false), 63);
        });
        edge(4, "modulo 2^b. The other bucket of a key is its home xor the step of its tag.", () -> {
            due("a step of 63, 2 buckets", withSeed(1, 0).bucket(42, true), 0);
            due("a step of 63, 8 buckets", withSeed(3, 0).bucket(42, true), 0);
            due("a step of 63, 64 buckets", withSeed(6, 0).bucket(42, true), 56);
            due("from bucket 63", withSeed(6, 0).bucket(505, true), 50);
            due("from bucket 0", withSeed(6, 13).bucket(924, true), 43);
        });
        edge(4, "Returns one of the two buckets of a key. - `other`: true for its other bucket, false for its home"
                + " Returns the number of the bucket.", () -> {
            for (int bits = 1; bits <= 6; bits++) {
                for (int key = 0; key < 1000; key += 250) {
                    twoBuckets(withSeed(bits, 0), bits, key, key + 249);
                }
            }
        });
    }

    private static void twoBuckets(CuckooAudit x, int bits, int from, int to) {
        for (int key = from; key <= to; key++) {
            due("the buckets of " + key, x.bucket(key, false) + " " + x.bucket(key, true),
                    homeOf(key, bits, 0) + " " + otherOf(key, bits, 0));
        }
    }

    private static void matching() {
        edge(5, "An entry matches a key if it has the tag of the key, and its fingerprint consists of the bits b to"
                + " b + L - 1 of the body of the key", () -> {
            for (int[] pair : PAIRS) {
                for (int bits = 1; bits <= 6; bits++) {
                    for (int length = 1; length <= 8; length++) {
                        CuckooAudit x = new CuckooAudit();
                        x.rebuild(bits, 1, length, pair[1]);
                        x.add(pair[2]);
                        String what = pair[3] + " by the entry of " + pair[2] + ", b " + bits + ", L " + length;
                        due(what, x.found(pair[3]), pair[0] >= bits + length);
                        due(what, x.found(pair[2]), true);
                    }
                }
            }
        });
        edge(5, "a length L from 0 to 8", () -> {
            for (int[] pair : PAIRS) {
                for (int bits = 1; bits <= 5; bits++) {
                    CuckooAudit x = new CuckooAudit();
                    x.rebuild(bits, 1, 1, pair[1]);
                    x.add(pair[2]);
                    x.grow();
                    due("the length", x.info(7), 0);
                    due(pair[3] + " by an entry of length 0, b " + (bits + 1), x.found(pair[3]), pair[0] > bits);
                }
            }
        });
        edge(5, "if it has the tag of the key", () -> {
            CuckooAudit x = with(1, 1, 1, 0);
            x.grow();
            due("another key with the same buckets and length 0", x.found(14), false);
            due("a key with the same tag and home", x.found(306), true);
        });
    }

    private static void finding() {
        edge(5, "Tells whether a key is found. Returns true if it is.", () -> {
            int[] keys = {365, 41, 306, 381, 0, 13, 999, 505};
            for (int key = 0; key < 1000; key += 500) {
                CuckooAudit x = with(3, 4, 3, keys);
                for (int i = key; i < key + 500; i++) {
                    due("found(" + i + ")", x.found(i), isAlikeOne(i, keys, 3, 3));
                }
            }
        });
        edge(5, "A slot is empty or contains an entry.", () -> {
            for (int key = 0; key < 1000; key += 500) {
                CuckooAudit x = new CuckooAudit();
                for (int i = key; i < key + 500; i++) {
                    due("found(" + i + ") of none", x.found(i), false);
                }
            }
        });
        // With 2 buckets the keys 0 and 36 have the tag 35, the home 0 and the first bit 1, 41 has the home 1.
        edge(5, "A key is found if an entry of side 0 in its home", () -> {
            CuckooAudit x = with(1, 1, 1, 0);
            due("the layout", layout(x), "35 -");
            due("in the home, side 0", x.found(36), true);
            due("in the other bucket, side 0", x.found(41), false);
        });
        edge(5, "an entry of side 1 in its other bucket", () -> {
            CuckooAudit x = with(1, 1, 1, 3, 0);
            due("the layout", layout(x), "14 35'");
            due("in the other bucket, side 1", x.found(36), true);
            due("in the home, side 1", x.found(41), false);
        });
        edge(5, "or an entry of the stash whose home is the home of the key, matches it. (The home of an entry of the"
                + " stash is kept with it.)", () -> {
            CuckooAudit x = withoutWalks(1, 1, 1, 1, 2, 0);
            due("the layout", layout(x), "45' 30 +35@0");
            due("a key with the same home", x.found(36), true);
            due("a key with another home", x.found(41), false);
            CuckooAudit third = withoutWalks(1, 1, 1, 1, 2, 3, 4, 0);
            due("the third of the stash", third.stashed(2, 0) + " " + third.stashed(2, 3), "35 0");
            due("a key with the same home", third.found(36), true);
            due("a key with another home", third.found(41), false);
        });
    }

    /** Tells whether a key has the tag, the home and the fingerprint of one of the keys, with seed 0. */
    private static boolean isAlikeOne(int key, int[] keys, int bits, int length) {
        for (int one : keys) {
            boolean sameBody = bodyOf(key, 0) % (1 << bits + length) == bodyOf(one, 0) % (1 << bits + length);
            if (sameBody && tagOf(key, 0) == tagOf(one, 0)) {
                return true;
            }
        }
        return false;
    }

    private static void places() {
        edge(6, "where the slots of the home come first, in ascending order, then those of the other bucket", () -> {
            int[] keys = {1, 2, 9, 12, 21, 26, 62, 81};
            CuckooAudit x = with(2, 4, 5, keys);
            for (int i = 0; i < keys.length; i++) {
                due("place(" + keys[i] + ")", x.place(keys[i]), i < 4 ? 4 + i : i - 4);
                due("found(" + keys[i] + ")", x.found(keys[i]), true);
            }
        });
        edge(6, "Returns 4 * bucket + slot", () -> {
            CuckooAudit x = with(6, 4, 8);
            int[] keys = keysOfHome(63, 4);
            for (int slot = 0; slot < 4; slot++) {
                x.add(keys[slot]);
                due("bucket 63, slot " + slot, x.place(keys[slot]), 252 + slot);
            }
            due("bucket 0, slot 0", with(1, 1, 8, 0).place(0), 0);
            due("bucket 1 of 2 with one slot", with(1, 1, 8, 1).place(1), 4);
            due("bucket 1 of 2 on side 1", with(1, 1, 8, 3, 0).place(0), 4);
        });
        edge(6, "1000 + its position for an entry of the stash", () -> {
            CuckooAudit x = withoutWalks(1, 1, 5, 1, 2, 3, 4, 0);
            due("the three", x.place(3) + " " + x.place(4) + " " + x.place(0), "1000 1001 1002");
            x.delete(3);
            due("behind a deletion", x.place(4) + " " + x.place(0), "1000 1001");
        });
        edge(6, "NONE if the key is not found.", () -> {
            due("of a new object", fresh().place(0), NONE);
            due("a key that was deleted", deleted(365).place(365), NONE);
            due("a key with the same home alone", with(2, 2, 5, 365).place(7), NONE);
        });
        edge(6, NONE_LAST, () -> {
            refused("a wrong key of a new object", ARGUMENT, CuckooAudit::new, x -> x.place(1000));
            refused("a wrong key of a new object", ARGUMENT, CuckooAudit::new, x -> x.place(-1));
        });
        edge(6, "Tells where the entry is that would be removed if the key were present and deleted.", () -> {
            due("a false key", with(2, 2, 5, 365).place(747), 12);
            CuckooAudit x = with(2, 2, 3, 365);
            x.setLength(5);
            x.add(684);
            due("a false key, longest entry", x.place(747), 13);
            due("a present key by the entry of another", x.place(365), 13);
        });
    }

    private static CuckooAudit deleted(int key) {
        CuckooAudit x = with(2, 2, 5, key);
        x.delete(key);
        return x;
    }

    /** The first keys with this home, with 64 buckets and seed 0. */
    private static int[] keysOfHome(int home, int number) {
        int[] keys = new int[number];
        int found = 0;
        for (int key = 0; key < 1000 && found < number; key++) {
            if (homeOf(key, 6, 0) == home) {
                keys[found] = key;
                found++;
            }
        }
        return keys;
    }

    private static void presentKeys() {
        edge(7, "PRESENT KEYS. There is a list of present keys, in the order in which they were added; a key is in it"
                + " at most once.", () -> {
            CuckooAudit x = with(3, 4, 8, 999, 0, 500, 4);
            due("four keys", keysOf(x), "999 0 500 4");
            x.delete(999);
            due("without the first", keysOf(x), "0 500 4");
            x.add(999);
            due("added again", keysOf(x), "0 500 4 999");
            x.delete(500);
            due("without one between", keysOf(x), "0 4 999");
            x.delete(999);
            due("without the last", keysOf(x), "0 4");
            refused("add of a key in the list", STATE, () -> with(3, 4, 8, 0, 4), y -> y.add(4));
        });
        edge(7, "Returns a present key. - `index`: its position in the list, from 0 Returns the key.", () -> {
            CuckooAudit x = crowd();
            due("the first and the last", x.present(0) + " " + x.present(119), "0 119");
        });
        edge(7, "Throws `IndexOutOfBoundsException` if there is no such position", () -> {
            for (int index : new int[] {-1, 120, 121, 1000, LOWEST, HIGHEST}) {
                refusedEverywhere("present(" + index + ")", POSITION, x -> x.present(index));
            }
            refused("present(0) of none", POSITION, CuckooAudit::new, x -> x.present(0));
            refused("present(4) of 4", POSITION, Edges::busy, x -> x.present(4));
            refused("present(1) behind a deletion", POSITION, KeyEdges::oneOfTwo, x -> x.present(1));
            refused("present(0) behind clear", POSITION, KeyEdges::cleared, x -> x.present(0));
        });
        edge(8, "Returns the number of present keys. Returns 0 to 120.", () -> {
            due("none", fresh().count(), 0);
            due("all that may be", crowd().count(), 120);
            due("behind a deletion", oneOfTwo().count(), 1);
            due("behind clear", cleared().count(), 0);
        });
        edge(8, "At most 120 keys are present.", () -> {
            refused("the key 121", STATE, Edges::crowd, x -> x.add(999));
            CuckooAudit x = crowd();
            x.delete(119);
            due("119", x.count(), 119);
            x.add(999);
            due("120 again", x.count() + " " + x.present(119), "120 999");
        });
    }

    private static CuckooAudit oneOfTwo() {
        CuckooAudit x = with(2, 2, 5, 1, 2);
        x.delete(1);
        return x;
    }

    private static CuckooAudit cleared() {
        CuckooAudit x = busy();
        x.clear();
        return x;
    }
}
