/** The sentences of promises 25 to 32: false keys, and what other numbers would give. */
final class AuditEdges extends Edges {
    private static final String ARGUMENT_OUT_OF_RANGE =
            "Throws `IllegalArgumentException` if an argument is out of range";

    static void all() {
        falseKeys();
        falseKey();
        blamed();
        twins();
        bestSeed();
        bestSeedLeavesOut();
        leastBits();
        couldFit();
        rateBits();
    }

    /** False keys are 0, 123, 306, 346, 366, 443, 544, 749, 804, 814 and 999. */
    private static CuckooAudit eleven() {
        return with(1, 4, 1, 36, 13, 381);
    }

    /**
     * With the seed 5 the entry of 97 would find -1, and that of 165 would find 1000, if these were keys. False keys
     * are 511 and 677, which 97 finds, and 493, 494, 719, 756 and 833.
     */
    private static CuckooAudit beyondBothEnds() {
        CuckooAudit x = new CuckooAudit();
        x.rebuild(1, 4, 1, 5);
        x.add(97);
        x.add(165);
        return x;
    }

    // ---- falseKeys, falseKey, blamed

    private static void falseKeys() {
        edge(25, KEY_RANGE, () -> due("all", beyondBothEnds().falseKeys(0, 999), 7));
        edge(26, KEY_RANGE, () -> {
            due("the first and the last", beyondBothEnds().falseKey(0) + " " + beyondBothEnds().falseKey(6), "493 833");
            due("one more", beyondBothEnds().falseKey(7), NONE);
        });
        edge(27, KEY_RANGE, () -> {
            due("the slot of 97", beyondBothEnds().blamed(0, 0), 2);
            due("the slot of 165", beyondBothEnds().blamed(0, 1), 5);
        });
        edge(32, KEY_RANGE, () -> due("7 of 998", beyondBothEnds().rateBits(), Float.floatToIntBits(7f / 998f)));
        edge(25, "Counts false keys. Returns the number of false keys from from to to.", () -> {
            CuckooAudit x = eleven();
            due("all", x.falseKeys(0, 999), 11);
            due("the first key", x.falseKeys(0, 0), 1);
            due("the last key", x.falseKeys(999, 999), 1);
            due("all but the first and the last", x.falseKeys(1, 998), 9);
            due("a false key at both ends", x.falseKeys(123, 306), 2);
            due("just inside of them", x.falseKeys(124, 305), 0);
        });
        edge(25, "A key that is found but not present is a false one.", () -> {
            due("no keys", new CuckooAudit().falseKeys(0, 999), 0);
            CuckooAudit x = with(2, 2, 5, 365);
            due("three others", x.falseKeys(0, 999), 3);
            due("a present one", x.falseKeys(365, 365), 0);
            x.add(684);
            due("one of the three is present now", x.falseKeys(0, 999), 2);
            x.delete(365);
            due("another one instead", x.falseKeys(0, 999), 3);
            due("by an entry of the stash", withoutWalks(2, 1, 5, 3, 0, 365).falseKeys(0, 999), 3);
        });
        edge(25, "Throws `IllegalArgumentException` if not 0 <= from <= to <= 999", () -> {
            refusesOtherRanges((x, from, to) -> x.falseKeys(from, to));
        });
    }

    private static void falseKey() {
        edge(26, "Returns a false key. - `index`: its position among all false keys in ascending order, from 0"
                + " Returns the key", () -> {
            int[] keys = {0, 123, 306, 346, 366, 443, 544, 749, 804, 814, 999};
            for (int i = 0; i < keys.length; i++) {
                due("falseKey(" + i + ")", eleven().falseKey(i), keys[i]);
            }
        });
        edge(26, "NONE if there is no such position (or index is negative).", () -> {
            due("behind the last one", eleven().falseKey(11), NONE);
            due("far behind", eleven().falseKey(1000), NONE);
            due("the highest", eleven().falseKey(HIGHEST), NONE);
            due("-1", eleven().falseKey(-1), NONE);
            due("the lowest", eleven().falseKey(LOWEST), NONE);
            due("0 of none", new CuckooAudit().falseKey(0), NONE);
            due("0 of 120 keys without a false one", crowd().falseKey(0), NONE);
            due("a false key that is present now", with(1, 4, 1, 36, 13, 381, 999).falseKey(10), NONE);
        });
    }

    private static void blamed() {
        edge(27, "that are found by the entry of a slot alone (that would not be found if the slot were empty)", () -> {
            due("the only entry", with(2, 2, 5, 365).blamed(3, 0), 3);
            due("the first of two", with(2, 2, 5, 365, 684).blamed(3, 0), 0);
            due("the second of two", with(2, 2, 5, 365, 684).blamed(3, 1), 0);
            CuckooAudit stash = withoutWalks(2, 1, 5, 0, 365, 684);
            due("the layout", layout(stash), "- - 35 13 +13@3");
            due("one in a slot, one in the stash", stash.blamed(3, 0), 0);
            stash.delete(684);
            due("behind the stash", stash.blamed(3, 0), 3);
            due("on side 1", withoutWalks(2, 1, 5, 4, 704).blamed(2, 0), 3);
            CuckooAudit longer = with(2, 2, 6, 365);
            longer.setLength(5);
            longer.add(704);
            due("the longer one", longer.blamed(3, 0), 0);
            due("the shorter one", longer.blamed(3, 1), 1);
        });
        edge(27, "Counts the false keys", () -> {
            due("the slot of 36", eleven().blamed(0, 0), 5);
            due("the slot of 13", eleven().blamed(0, 1), 5);
            due("the slot of 381", eleven().blamed(0, 2), 1);
            due("without the last key", with(1, 4, 1, 36, 13, 381, 999).blamed(0, 1), 0);
            changesNothing("blamed", AuditEdges::eleven, x -> x.blamed(0, 0));
        });
        edge(27, "Returns the number of false keys; 0 if the slot is empty.", () -> {
            due("a new object", new CuckooAudit().blamed(0, 0), 0);
            due("the last slot", eleven().blamed(0, 3), 0);
            due("the last slot of the other bucket", eleven().blamed(1, 3), 0);
        });
        edge(27, "Throws `IndexOutOfBoundsException` if there is no such bucket or slot", () -> {
            for (int number : new int[] {-1, 64, 256, 1 << 30, LOWEST, HIGHEST}) {
                refusedEverywhere("bucket " + number, POSITION, x -> x.blamed(number, 0));
                refusedEverywhere("slot " + number, POSITION, x -> x.blamed(0, number));
            }
            for (int bits = 1; bits <= 6; bits++) {
                int b = bits;
                due("the last bucket", with(b, 1, 5).blamed((1 << b) - 1, 0), 0);
                refused("bucket 2^" + b, POSITION, () -> with(b, 1, 5), x -> x.blamed(1 << b, 0));
            }
            for (int slots = 1; slots <= 4; slots++) {
                int s = slots;
                due("the last slot", with(1, s, 5).blamed(1, s - 1), 0);
                refused("slot " + s, POSITION, () -> with(1, s, 5), x -> x.blamed(1, s));
            }
        });
    }

    // ---- twins

    private static void twins() {
        edge(28, "with the same tag, the same home, and the same bits b to b + f - 1 of their bodies.", () -> {
            for (int[] pair : KeyEdges.PAIRS) {
                for (int bits = 1; bits <= 6; bits++) {
                    CuckooAudit x = new CuckooAudit();
                    x.rebuild(bits, 2, 8, pair[1]);
                    x.add(pair[2]);
                    x.add(pair[3]);
                    for (int length = 1; length <= 8; length++) {
                        x.setLength(length);
                        due(pair[2] + " and " + pair[3] + ", b " + bits + ", f " + length, x.twins(),
                                pair[0] >= bits + length ? 1 : 0);
                    }
                }
            }
        });
        edge(28, "Returns the number of pairs.", () -> {
            due("no keys", new CuckooAudit().twins(), 0);
            due("one key", with(2, 2, 5, 365).twins(), 0);
            due("two", with(2, 4, 5, 365, 684).twins(), 1);
            due("three", with(2, 4, 5, 365, 684, 704).twins(), 3);
            due("four, and others between", with(2, 4, 5, 1, 365, 2, 684, 0, 704, 3, 747).twins(), 6);
            due("in the stash", withoutWalks(2, 1, 5, 365, 684, 704, 747).twins(), 6);
        });
        edge(28, "Counts the pairs of present keys", () -> {
            due("false keys do not count", with(2, 2, 5, 365).twins(), 0);
            due("deleted ones neither", without(with(2, 2, 5, 365, 684, 704), 684).twins(), 1);
            changesNothing("twins", Edges::busy, x -> x.twins());
        });
    }

    // ---- bestSeed

    private static void bestSeed() {
        edge(29, "- `seeds`: how many seeds are tried, from 0 on, 1 to 20", () -> {
            due("the last one of 20", with(1, 1, 1, 5).bestSeed(20), 19);
            due("without it", with(1, 1, 1, 5).bestSeed(19), 2);
            due("the first one alone", with(1, 1, 1, 5).bestSeed(1), 0);
            due("the seed 20 would be better", with(1, 1, 1, 141).bestSeed(20), 4);
        });
        edge(29, "Returns the lowest such seed", () -> {
            due("no keys", new CuckooAudit().bestSeed(20), 0);
            due("no keys, one seed", new CuckooAudit().bestSeed(1), 0);
            due("three seeds with 2 false keys", with(1, 1, 1, 141).bestSeed(9), 4);
            CuckooAudit other = new CuckooAudit();
            other.rebuild(1, 1, 1, 99);
            other.add(5);
            due("the seed of the filter is not asked", other.bestSeed(20), 19);
        });
        edge(29, KEY_RANGE, () -> {
            due("the key 0 is one of the false keys", with(1, 1, 1, 195).bestSeed(20), 14);
            due("the key 0 is one of the false keys", with(1, 1, 2, 23).bestSeed(20), 10);
            due("the key 999 is one of the false keys", with(1, 1, 1, 75).bestSeed(20), 13);
            due("the key 999 is one of the false keys", with(1, 1, 2, 814).bestSeed(20), 3);
        });
        edge(29, "Finds the seed with which the filter, rebuilt with the other numbers as they are, would have the"
                + " fewest false keys", () -> {
            due("b and f are not changed", with(2, 1, 1, 5).bestSeed(20), bestOf(5, 2, 1));
            due("b and f are not changed", with(1, 1, 2, 130).bestSeed(20), bestOf(130, 1, 2));
            changesNothing("bestSeed", Edges::busy, x -> x.bestSeed(20));
            changesNothing("bestSeed with 120 keys", Edges::crowd, x -> x.bestSeed(2));
        });
        edge(29, "Throws `IllegalArgumentException` if seeds is out of range", () -> {
            refusesOtherNumbers(1, 20, (x, seeds) -> x.bestSeed(seeds));
        });
    }

    /** The seed of 20 with which the fewest keys have the tag, the home and the fingerprint of this one. */
    private static int bestOf(int key, int bits, int length) {
        int best = NONE;
        int fewest = 1000;
        for (int seed = 0; seed < 20; seed++) {
            int alike = 0;
            for (int other = 0; other < 1000; other++) {
                boolean same = tagOf(other, seed) == tagOf(key, seed)
                        && bodyOf(other, seed) % (1 << bits + length) == bodyOf(key, seed) % (1 << bits + length);
                alike += same ? 1 : 0;
            }
            best = alike < fewest ? seed : best;
            fewest = alike < fewest ? alike : fewest;
        }
        return best;
    }

    private static void bestSeedLeavesOut() {
        edge(29, "seeds with which rebuilding is not possible are left out.", () -> {
            CuckooAudit x = noWalks(2, 2, 1, 4, 16, 25, 35, 48, 84, 85);
            due("the seed 0 is not possible, 1 has 6 false keys", x.bestSeed(2), 1);
            due("as many with the seed 3", x.bestSeed(4), 1);
            due("7 and 8 are not possible either", x.bestSeed(9), 1);
            due("the seed 9 has 5", x.bestSeed(10), 9);
            due("so have 10, 12 and 16", x.bestSeed(20), 9);
        });
        edge(29, "NONE if rebuilding is possible with none.", () -> {
            due("one seed", noWalks(2, 2, 1, 4, 16, 25, 35, 48, 84, 85).bestSeed(1), NONE);
            due("twenty seeds", noSeed().bestSeed(20), NONE);
        });
        edge(29, NONE_LAST, () -> {
            refused("no seeds, none is possible", ARGUMENT, AuditEdges::noSeed, x -> x.bestSeed(0));
            refused("21 seeds, the first 20 are not possible", ARGUMENT, AuditEdges::noSeed, x -> x.bestSeed(21));
        });
    }

    /** Rebuilding is possible with none of the first 20 seeds. */
    private static CuckooAudit noSeed() {
        return noWalks(4, 5, 25, 2, 8, 10, 11, 18, 22, 24, 25, 50, 53, 63, 64, 68, 73, 74, 81, 89, 97);
    }

    /** One slot a bucket, the limit 0. */
    private static CuckooAudit noWalks(int bits, int length, int seed, int... keys) {
        CuckooAudit x = new CuckooAudit();
        x.rebuild(bits, 1, length, seed);
        x.setLimit(0);
        for (int key : keys) {
            due("add(" + key + ")", x.add(key) % 100, 0);
        }
        return x;
    }

    // ---- leastBits, couldFit, rateBits

    private static void leastBits() {
        edge(30, "Returns the smallest b, 1 to 6; NONE if there is none.", () -> {
            int[][] fewestKeys = {{0, 6, 8, 12, 20, 28, 52}, {0, 8, 12, 20, 36, 63, 118}, {0, 10, 16, 28, 51, 97},
                {0, 12, 20, 36, 67}};
            CuckooAudit[] withKeys = new CuckooAudit[121];
            for (int keys = 0; keys <= 120; keys++) {
                withKeys[keys] = firstKeys(keys);
            }
            for (int slots = 1; slots <= 4; slots++) {
                for (int i = 0; i < fewestKeys[slots - 1].length; i++) {
                    int fewest = fewestKeys[slots - 1][i];
                    String what = fewest + " keys, " + slots + " slots";
                    due(what, withKeys[fewest].leastBits(slots, 5), i == 6 ? NONE : i + 1);
                    if (fewest > 0) {
                        due("fewer than " + what, withKeys[fewest - 1].leastBits(slots, 5), i);
                    }
                }
                int most = slots == 1 ? NONE : slots == 2 ? NONE : slots == 3 ? 6 : 5;
                due("120 keys, " + slots + " slots", withKeys[120].leastBits(slots, 8), most);
            }
        });
        edge(30, "Finds the smallest b with which the filter could be rebuilt (with the seed and the walk limit as they"
                + " are).", () -> {
            CuckooAudit x = with(2, 1, 5, 5, 2, 1, 9, 12, 21);
            due("the limit 10", x.leastBits(1, 5), 2);
            x.setLimit(0);
            due("the limit 0", x.leastBits(1, 5), 3);
            due("the seed 25", noSeed().leastBits(1, 5), 4);
            changesNothing("leastBits", Edges::busy, y -> y.leastBits(4, 8));
            changesNothing("leastBits with 120 keys", Edges::crowd, y -> y.leastBits(1, 1));
        });
        edge(30, "- `slots`: s, 1 to 4", () -> {
            due("1 and 4", new CuckooAudit().leastBits(1, 1) + " " + new CuckooAudit().leastBits(4, 1), "1 1");
            refusesOtherNumbers(1, 4, (x, slots) -> x.leastBits(slots, 5));
        });
        edge(30, "- `length`: f, 1 to 8", () -> {
            due("1 and 8", firstKeys(6).leastBits(1, 1) + " " + firstKeys(6).leastBits(1, 8), "2 2");
            refusesOtherNumbers(1, 8, (x, length) -> x.leastBits(2, length));
        });
        edge(30, NONE_LAST, () -> {
            refused("a wrong length, no b is possible", ARGUMENT, Edges::crowd, x -> x.leastBits(1, 9));
            refused("no slots, no b is possible", ARGUMENT, Edges::crowd, x -> x.leastBits(0, 8));
        });
        edge(30, ARGUMENT_OUT_OF_RANGE, () -> {
            refusedEverywhere("both", ARGUMENT, x -> x.leastBits(0, 9));
            refusedEverywhere("both", ARGUMENT, x -> x.leastBits(5, 0));
        });
    }

    /** The keys from 0 on, with the seed 0 and the limit 10. */
    private static CuckooAudit firstKeys(int number) {
        CuckooAudit x = with(6, 4, 8);
        for (int key = 0; key < number; key++) {
            x.add(key);
        }
        return x;
    }

    private static void couldFit() {
        edge(31, "so that no bucket gets more entries than it has slots.", () -> {
            due("no keys", new CuckooAudit().couldFit(1, 1, 0), true);
            due("2 for 2 slots", firstKeys(2).couldFit(1, 1, 0), true);
            due("3 for 2 slots", firstKeys(3).couldFit(1, 1, 0), false);
            due("8 for 8 slots", firstKeys(8).couldFit(1, 4, 0), true);
            due("9 for 8 slots", firstKeys(9).couldFit(1, 4, 0), false);
            due("120 for 256 slots", crowd().couldFit(6, 4, 0), true);
            due("120 for 64 slots", crowd().couldFit(6, 1, 0), false);
            due("the stash does not count", with(1, 1, 5, 1, 2, 3).couldFit(1, 1, 0), false);
        });
        edge(31, "to buckets, each to its home or its other bucket", () -> {
            due("two of the same buckets", with(2, 2, 5, 1, 2).couldFit(2, 1, 0), true);
            due("three of the same two buckets", with(2, 2, 5, 1, 2, 9).couldFit(2, 1, 0), false);
            due("five of them, two slots", with(2, 4, 5, 1, 2, 9, 12, 21).couldFit(2, 2, 0), false);
            due("five of them, three slots", with(2, 4, 5, 1, 2, 9, 12, 21).couldFit(2, 3, 0), true);
            due("the first has to give way", with(2, 2, 5, 5, 2, 1).couldFit(2, 1, 0), true);
            due("all four slots by moves", with(2, 2, 5, 5, 2, 7, 17).couldFit(2, 1, 0), true);
            due("a limit of 0 does not matter", withoutWalks(2, 2, 5, 5, 2, 7, 17).couldFit(2, 1, 0), true);
        });
        edge(31, "Returns true if they could.", () -> {
            CuckooAudit x = with(2, 4, 5, 1, 2, 9, 12, 21);
            for (int seed = 0; seed < 100; seed++) {
                due("the seed " + seed, x.couldFit(2, 2, seed), fitByCounting(new int[] {1, 2, 9, 12, 21}, seed));
            }
        });
        String[] ranges = {"- `bits`: b, 1 to 6", "- `slots`: s, 1 to 4", "- `seed`: the seed, 0 to 99"};
        int[][] limits = {{1, 6}, {1, 4}, {0, 99}};
        for (int place = 0; place < ranges.length; place++) {
            int at = place;
            edge(31, ranges[at], () -> {
                for (int good : limits[at]) {
                    int[] a = {3, 2, 7};
                    a[at] = good;
                    due("couldFit with " + good, firstKeys(1).couldFit(a[0], a[1], a[2]), true);
                }
                refusesOtherNumbers(limits[at][0], limits[at][1], (x, bad) -> {
                    int[] a = {3, 2, 7};
                    a[at] = bad;
                    x.couldFit(a[0], a[1], a[2]);
                });
            });
        }
        edge(31, ARGUMENT_OUT_OF_RANGE, () -> refusedEverywhere("all three", ARGUMENT, x -> x.couldFit(0, 5, -1)));
        edge(31, "Tells whether the entries of all present keys could be distributed", () -> {
            changesNothing("couldFit", Edges::busy, x -> x.couldFit(1, 1, 99));
            changesNothing("couldFit with 120 keys", Edges::crowd, x -> x.couldFit(5, 4, 50));
        });
    }

    /** All ways to give the keys to one of their two buckets each are tried, with 4 buckets of 2 slots. */
    private static boolean fitByCounting(int[] keys, int seed) {
        for (int way = 0; way < 1 << keys.length; way++) {
            int[] entries = new int[4];
            boolean fits = true;
            for (int i = 0; i < keys.length; i++) {
                int bucket = (way >> i & 1) == 0 ? homeOf(keys[i], 2, seed) : otherOf(keys[i], 2, seed);
                entries[bucket]++;
                fits = fits && entries[bucket] <= 2;
            }
            if (fits) {
                return true;
            }
        }
        return false;
    }

    private static void rateBits() {
        edge(32, "Returns the rate of false keys.", () -> {
            due("no keys", new CuckooAudit().rateBits(), 0);
            due("no false ones", crowd().rateBits(), 0);
        });
        edge(32, "Returns the bits, as Float.floatToIntBits gives them, of the number of all false keys as a float,"
                + " divided by the number of keys that are not present as a float.", () -> {
            due("11 of 997", eleven().rateBits(), Float.floatToIntBits(11f / 997f));
            due("3 of 999", with(2, 2, 5, 365).rateBits(), Float.floatToIntBits(3f / 999f));
            due("31 of 992, 2^-5", with(1, 4, 1, 44, 29, 86, 28, 97, 58, 37, 2).rateBits(), 122 << 23);
            CuckooAudit most = with(6, 4, 1);
            for (int key = 0; key < 120; key++) {
                most.add(key);
                int falseOnes = most.falseKeys(0, 999);
                due("behind the key " + key, most.rateBits(), Float.floatToIntBits((float) falseOnes / (999 - key)));
            }
            due("12 of 880", most.rateBits(), Float.floatToIntBits(12f / 880f));
        });
    }
}
