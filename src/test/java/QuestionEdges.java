/**
 * The sentences of promises 17 to 24: what there is, and what would be. The keys used most, with seed 0 and 2
 * bits (home, other bucket): 1, 2, 9, 12, 21 and 26 (1, 0); 5 (1, 2); 7 and 17 (3, 0); 0 (2, 1); 25 (0, 3); 27 (2, 3).
 */
final class QuestionEdges extends Edges {
    private static final String WHAT_OUT_OF_RANGE = "Throws `IllegalArgumentException` if what is out of range";

    static void all() {
        infoNumbers();
        infoOfEntries();
        slotParts();
        slotRefuses();
        stashed();
        filled();
        walk();
        walkStep();
        walkStepEnds();
        leastMoves();
        roomFor();
        roomForEnds();
    }

    private static CuckooAudit limited(int limit, CuckooAudit x) {
        x.setLimit(limit);
        return x;
    }

    /** The entry of 142 has the tag 0, the home 0, the length 0 and the fingerprint 0, in the first slot. */
    private static CuckooAudit allZero() {
        CuckooAudit x = with(1, 1, 1, 142);
        x.grow();
        return x;
    }

    // ---- info

    private static void infoNumbers() {
        edge(17, "Returns a number. - `what`: 0 the number of buckets, 1 s, 2 f, 3 the seed, 4 the walk limit", () -> {
            CuckooAudit x = new CuckooAudit();
            x.rebuild(1, 1, 1, 0);
            x.setLimit(0);
            due("the lowest", numbersOf(x), "2 1 1 0 0");
            x.rebuild(6, 4, 8, 99);
            x.setLimit(50);
            due("the highest", numbersOf(x), "64 4 8 99 50");
        });
        edge(17, "5 the number of entries in slots, 6 the number of entries in the stash", () -> {
            due("none", new CuckooAudit().info(5) + " " + new CuckooAudit().info(6), "0 0");
            due("all slots and the whole stash", with(1, 1, 5, 1, 2, 3, 4, 5).info(5) + " "
                    + with(1, 1, 5, 1, 2, 3, 4, 5).info(6), "2 3");
            due("120 in slots", crowd().info(5) + " " + crowd().info(6), "120 0");
            due("an entry whose numbers are all 0", allZero().info(5), 1);
        });
        edge(17, WHAT_OUT_OF_RANGE, () -> refusesOtherNumbers(0, 8, (x, what) -> x.info(what)));
    }

    private static void infoOfEntries() {
        edge(17, "7 the smallest length of an entry, in a slot or in the stash (NONE without entries)", () -> {
            due("without entries", new CuckooAudit().info(7), NONE);
            due("without entries, f 1", with(2, 2, 1).info(7), NONE);
            due("behind a deletion", without(with(2, 2, 5, 1), 1).info(7), NONE);
            due("length 0", allZero().info(7), 0);
            due("the greatest", with(2, 2, 8, 1).info(7), 8);
            due("in the first slot of two", shorterThen(1, 3, 5).info(7), 3);
            due("in the last slot of two", shorterThen(1, 5, 3).info(7), 3);
            CuckooAudit stash = withoutWalks(1, 1, 5, 1, 2, 3);
            stash.setLength(2);
            stash.add(4);
            stash.setLength(8);
            stash.add(5);
            due("in the middle of the stash", stash.info(7), 2);
            due("f is not asked", shorterThen(1, 3, 5).info(2), 5);
        });
        edge(17, "8 1 if doubling is possible, otherwise 0 Returns that number.", () -> {
            due("b 2", new CuckooAudit().info(8), 1);
            due("b 5 and length 1", with(5, 1, 1, 0).info(8), 1);
            due("b 6", with(6, 1, 8, 0).info(8), 0);
            due("b 6 without entries", with(6, 4, 8).info(8), 0);
            due("length 0", allZero().info(8), 0);
            due("behind the entry of length 0", without(allZero(), 142).info(8), 1);
            CuckooAudit stash = withoutWalks(1, 1, 5, 1, 2);
            stash.setLength(1);
            stash.add(9);
            due("length 1 in the stash", stash.info(8), 1);
            stash.grow();
            due("length 0 in the stash", stash.stashed(0, 1) + " " + stash.info(8), "0 0");
        });
    }

    /** The keys 1 and 2, of the home 1, with one length each. */
    private static CuckooAudit shorterThen(int bits, int first, int second) {
        CuckooAudit x = with(bits, 2, first, 1);
        x.setLength(second);
        x.add(2);
        x.setLength(5);
        return x;
    }

    // ---- slot, stashed, filled

    private static void slotParts() {
        edge(18, "Returns something about a slot. - `what`: 0 the tag, 1 the length, 2 the fingerprint, 3 the side of"
                + " its entry", () -> {
            dueSlot(allZero(), 0, 0, 0, 0, 0, 0);
            CuckooAudit greatest = with(6, 4, 8, 505);
            dueSlot(greatest, 63, 0, 45, 8, 255, 0);
            CuckooAudit tags = with(2, 4, 8, 29, 49);
            dueSlot(tags, 2, 0, 0, 8, 2770 >> 2 & 255, 0);
            dueSlot(tags, 2, 1, 63, 8, 5650 >> 2 & 255, 0);
            dueSlot(with(2, 1, 5, 1, 2), 0, 0, 45, 5, 14, 1);
        });
        // All bits of the body of 505 are 1; its buckets are those of 1.
        edge(18, "An entry consists of a tag, a length L from 0 to 8, a fingerprint of L bits, and a side, 0 or 1.",
                () -> {
            for (int length = 1; length <= 8; length++) {
                dueSlot(with(1, 1, length, 505), 1, 0, 45, length, (1 << length) - 1, 0);
                dueSlot(with(1, 1, length, 1, 505), 0, 0, 45, length, (1 << length) - 1, 1);
            }
            CuckooAudit shortest = with(1, 1, 1, 505);
            shortest.grow();
            dueSlot(shortest, 3, 0, 45, 0, 0, 0);
        });
        edge(18, "as a number with bit b as bit 0", () -> {
            dueSlot(with(2, 1, 8, 0), 2, 0, 35, 8, 0b11011111, 0);
            dueSlot(with(1, 1, 8, 0), 0, 0, 35, 8, 0b10111111, 0);
            dueSlot(with(6, 1, 8, 0), 62, 0, 35, 8, 0b00011101, 0);
            dueSlot(with(2, 1, 1, 0), 2, 0, 35, 1, 1, 0);
        });
        edge(18, "THE FILTER has 2^b buckets, numbered from 0, with s slots each, numbered from 0", () -> {
            for (int bits = 1; bits <= 6; bits++) {
                for (int slots = 1; slots <= 4; slots++) {
                    CuckooAudit x = with(bits, slots, 5);
                    due("the first slot", x.slot(0, 0, 0), NONE);
                    due("the last slot", x.slot((1 << bits) - 1, slots - 1, 0), NONE);
                }
            }
        });
        edge(18, "Returns that number; NONE if the slot is empty.", () -> {
            dueSlot(new CuckooAudit(), 0, 0, NONE, NONE, NONE, NONE);
            dueSlot(new CuckooAudit(), 3, 1, NONE, NONE, NONE, NONE);
            dueSlot(with(6, 4, 8, 505), 63, 3, NONE, NONE, NONE, NONE);
            dueSlot(without(with(2, 2, 5, 1, 2), 1), 1, 0, NONE, NONE, NONE, NONE);
            dueSlot(without(with(2, 2, 5, 1, 2), 1), 1, 1, 45, 5, 14, 0);
        });
        edge(18, NONE_LAST, () -> {
            refused("a wrong what of an empty slot", ARGUMENT, CuckooAudit::new, x -> x.slot(0, 0, 4));
            refused("a wrong what of an empty slot", ARGUMENT, CuckooAudit::new, x -> x.slot(3, 1, -1));
        });
    }

    private static void slotRefuses() {
        edge(18, "Throws `IndexOutOfBoundsException` if there is no such bucket or slot", () -> {
            for (int bits = 1; bits <= 6; bits++) {
                for (int slots = 1; slots <= 4; slots++) {
                    int b = bits;
                    int s = slots;
                    refused("bucket 2^" + b, POSITION, () -> with(b, s, 5), x -> x.slot(1 << b, 0, 0));
                    refused("slot " + s, POSITION, () -> with(b, s, 5), x -> x.slot(0, s, 0));
                }
            }
            for (int number : new int[] {-1, 64, 256, 1 << 30, LOWEST, HIGHEST}) {
                refusedEverywhere("bucket " + number, POSITION, x -> x.slot(number, 0, 0));
                refusedEverywhere("slot " + number, POSITION, x -> x.slot(0, number, 0));
                refusedEverywhere("bucket and slot " + number, POSITION, x -> x.slot(number, number, 0));
            }
            refused("a bucket that is undone", POSITION, QuestionEdges::grownAndUndone, x -> x.slot(4, 0, 0));
        });
        edge(18, WHAT_OUT_OF_RANGE, () -> {
            refusesOtherNumbers(0, 3, (x, what) -> x.slot(0, 0, what));
            refused("what 4 of an entry", ARGUMENT, () -> with(2, 2, 5, 1), x -> x.slot(1, 0, 4));
        });
        edge(18, LISTED_FIRST, () -> {
            refusedEverywhere("no bucket and a wrong what", POSITION, x -> x.slot(64, 0, 4));
            refusedEverywhere("no slot and a wrong what", POSITION, x -> x.slot(0, 4, -1));
        });
    }

    private static CuckooAudit grownAndUndone() {
        CuckooAudit x = with(2, 2, 5, 1);
        x.grow();
        x.undo();
        return x;
    }

    private static void stashed() {
        edge(19, "Returns something about an entry of the stash. - `index`: its position, from 0", () -> {
            CuckooAudit x = withoutWalks(1, 1, 5, 1, 2, 3, 4, 0);
            due("the three", x.stashed(0, 0) + " " + x.stashed(1, 0) + " " + x.stashed(2, 0), "14 45 35");
        });
        edge(19, "- `what`: 0 the tag, 1 the length, 2 the fingerprint, 3 its home Returns that number.", () -> {
            CuckooAudit x = withoutWalks(1, 1, 8, 1, 2, 0, 142);
            due("the entry of 0", stashedAt(x, 0), "35 8 191 0");
            due("that of 142", stashedAt(x, 1), "0 8 " + (0b100110001000 >> 1 & 255) + " 0");
            due("a home of 1", with(1, 1, 5, 1, 2, 9).stashed(0, 3), 1);
        });
        edge(19, "Throws `IndexOutOfBoundsException` if there is no such position", () -> {
            for (int index : new int[] {-1, 2, 3, 4, LOWEST, HIGHEST}) {
                refusedEverywhere("stashed(" + index + ")", POSITION, x -> x.stashed(index, 0));
            }
            refused("position 0 of none", POSITION, CuckooAudit::new, x -> x.stashed(0, 0));
            refused("position 3 of 3", POSITION, () -> with(1, 1, 5, 1, 2, 3, 4, 5), x -> x.stashed(3, 0));
            refused("one that was deleted", POSITION, () -> without(with(1, 1, 5, 1, 2, 3), 3), x -> x.stashed(0, 0));
        });
        edge(19, WHAT_OUT_OF_RANGE, () -> {
            for (int what : new int[] {-1, 4, LOWEST, HIGHEST}) {
                refused("what " + what, ARGUMENT, Edges::busy, x -> x.stashed(0, what));
            }
        });
        edge(19, LISTED_FIRST, () -> {
            refusedEverywhere("no position and a wrong what", POSITION, x -> x.stashed(3, 4));
            refused("none and a wrong what", POSITION, CuckooAudit::new, x -> x.stashed(0, -1));
        });
    }

    private static void filled() {
        edge(20, "Counts buckets by their entries. - `entries`: 0 to 4", () -> {
            dueFilled(new CuckooAudit(), "4 0 0 0 0");
            dueFilled(with(6, 4, 8), "64 0 0 0 0");
            dueFilled(with(1, 4, 5, 1, 2, 4, 5, 9, 7, 15, 19), "0 0 0 0 2");
            dueFilled(with(2, 4, 5, 1, 2, 9, 12, 21, 5), "1 2 0 0 1");
            dueFilled(crowd(), "10 17 18 9 10");
            dueFilled(allZero(), "3 1 0 0 0");
        });
        edge(20, "Returns how many buckets have exactly so many entries.", () -> {
            dueFilled(with(1, 1, 5, 1, 2, 3, 4, 5), "0 2 0 0 0");
            dueFilled(without(with(2, 2, 5, 1, 2), 1), "3 1 0 0 0");
        });
        edge(20, "Throws `IllegalArgumentException` if entries is out of range", () -> {
            refusesOtherNumbers(0, 4, (x, entries) -> x.filled(entries));
        });
    }

    private static void dueFilled(CuckooAudit x, String want) {
        String first = x.filled(0) + " " + x.filled(1) + " " + x.filled(2);
        due("filled", first + " " + x.filled(3) + " " + x.filled(4), want);
    }

    // ---- walk, walkStep

    private static void walk() {
        edge(21, "Returns the number of steps of the walk that are made (0 without a walk), or 100 if the entry would"
                + " come to the stash", () -> {
            due("home", with(2, 1, 5, 5, 2, 7).walk(0), 0);
            due("other bucket", with(2, 1, 5, 5, 2, 7).walk(5), 0);
            due("three steps of 3", limited(3, with(2, 1, 5, 5, 2, 7)).walk(17), 3);
            due("three steps of 2", limited(2, with(2, 1, 5, 5, 2, 7)).walk(17), 100);
            due("one step of 1", limited(1, with(2, 1, 5, 4, 10)).walk(17), 1);
            due("one step of 0", limited(0, with(2, 1, 5, 4, 10)).walk(17), 100);
            due("the last of the stash", with(1, 1, 5, 1, 2, 3, 4).walk(5), 100);
        });
        edge(21, "NONE if adding would fail.", () -> {
            due("a full stash", with(1, 1, 5, 1, 2, 3, 4, 5).walk(6), NONE);
            due("a full stash, no steps", limited(0, with(1, 1, 5, 1, 2, 3, 4, 5)).walk(6), NONE);
            due("a full stash, but room", with(2, 1, 5, 1, 2, 9, 12, 21).walk(17), 0);
        });
        edge(21, NONE_LAST, () -> {
            refused("a wrong key without room", ARGUMENT, () -> with(1, 1, 5, 1, 2, 3, 4, 5), x -> x.walk(1000));
            refused("a wrong key without room", ARGUMENT, () -> with(1, 1, 5, 1, 2, 3, 4, 5), x -> x.walk(-1));
        });
        edge(21, "(also if it is present, or 120 keys are)", () -> {
            due("a present key", with(2, 2, 5, 1).walk(1), 0);
            due("a present key, three steps", with(2, 1, 5, 5, 2, 7).walk(7), 3);
            due("a present key to the stash", with(2, 1, 5, 1, 2).walk(1), 100);
            due("a present key without room", with(1, 1, 5, 1, 2, 3, 4, 5).walk(5), NONE);
            due("with 120 keys", crowd().walk(500), 0);
            due("a present one of 120", crowd().walk(119), 0);
        });
        edge(21, KEY_OUT_OF_RANGE, () -> refusesOtherKeys((x, key) -> x.walk(key)));
        edge(21, "Predicts where the entry of a key would come if it were added as told above", () -> {
            for (int slots = 1; slots <= 4; slots++) {
                CuckooAudit x = with(2, slots, 5);
                for (int key = 0; key < 30; key++) {
                    due("walk(" + key + ")", x.walk(key), addedOrNone(x, key));
                }
                due("the stash is full", x.info(6), 3);
            }
        });
        edge(21, "Predicts where the entry of a key would come", () -> {
            changesNothing("walk without steps", Edges::busy, x -> x.walk(999));
            changesNothing("walk that ends well", () -> with(2, 1, 5, 5, 2, 7), x -> x.walk(17));
            changesNothing("walk that ends in the stash", () -> with(2, 1, 5, 1, 2), x -> x.walk(9));
            changesNothing("walk that fails", () -> with(1, 1, 5, 1, 2, 3, 4, 5), x -> x.walk(6));
        });
    }

    private static int addedOrNone(CuckooAudit x, int key) {
        try {
            return x.add(key);
        } catch (IllegalStateException e) {
            return NONE;
        }
    }

    private static void walkStep() {
        edge(22, "- `step`: its number, from 0", () -> {
            dueSteps(with(2, 1, 5, 5, 2, 7), 17, 0, "12 3", "0 45", "4 44", "-1 -1");
            dueSteps(limited(1, with(2, 1, 5, 4, 10)), 17, 0, "12 45", "-1 -1");
        });
        edge(22, "- `tag`: true for the tag of the entry that is taken out of its slot, false for 4 * bucket + slot"
                + " Returns that number", () -> {
            dueSteps(with(3, 1, 5, 48, 52), 26, 0, "20 13", "0 11", "-1 -1");
            dueSteps(with(2, 2, 5, 46, 44, 29, 43, 32, 21), 55, 0, "8 2", "13 5", "8 23", "5 42", "-1 -1");
            dueSteps(with(2, 3, 5, 51, 41, 49, 8, 4, 7), 11, 0, "8 9", "13 45", "10 1", "12 35", "-1 -1");
            dueSteps(with(2, 4, 5, 25, 58, 9, 21, 31, 29, 33, 55, 38, 53, 34, 50, 5), 26, 0, "4 57", "1 26", "6 40",
                    "11 23", "4 61", "1 57", "6 26", "3 16", "-1 -1");
            due("bucket 0, slot 0, tag 0", with(1, 1, 8, 142, 1).walkStep(0, 0, true), 0);
            due("bucket 0, slot 0", with(1, 1, 8, 142, 1).walkStep(0, 0, false), 0);
        });
        edge(22, "(whether or not the walk ends well)", () -> {
            dueSteps(limited(2, with(2, 1, 5, 5, 2, 7)), 17, 0, "12 3", "0 45", "-1 -1");
            dueSteps(with(1, 1, 5, 36, 37), 25, 0, "0 35", "4 50", "0 59", "4 35", "0 50", "4 59", "0 35", "4 50",
                    "0 59", "4 35", "-1 -1");
            dueSteps(with(1, 1, 5, 36, 37, 25, 0, 1), 2, 0, "4 50", "0 35", "4 45", "0 50", "4 35", "0 45", "4 50",
                    "0 35", "4 45", "0 50", "-1 -1");
        });
        edge(22, KEY_OUT_OF_RANGE, () -> {
            refusesOtherKeys((x, key) -> x.walkStep(key, 0, true));
            refusesOtherKeys((x, key) -> x.walkStep(key, 0, false));
        });
        edge(22, NONE_LAST, () -> {
            refusesOtherKeys((x, key) -> x.walkStep(key, -1, true));
            refusesOtherKeys((x, key) -> x.walkStep(key, 1000, false));
        });
    }

    /** Place and tag of some steps of a walk, the first of them of this number. */
    private static void dueSteps(CuckooAudit x, int key, int first, String... want) {
        for (int i = 0; i < want.length; i++) {
            due("step " + (first + i) + " for " + key, x.walkStep(key, first + i, false) + " "
                    + x.walkStep(key, first + i, true), want[i]);
        }
    }

    private static void walkStepEnds() {
        edge(22, "NONE if the walk would not have such a step (or step is negative)", () -> {
            dueSteps(with(2, 1, 5, 5, 2, 7), 17, -1, "-1 -1");
            dueSteps(with(2, 1, 5, 5, 2, 7), 17, LOWEST, "-1 -1");
            dueSteps(with(2, 1, 5, 5, 2, 7), 17, HIGHEST, "-1 -1");
            dueSteps(with(2, 1, 5, 5, 2, 7), 0, 0, "-1 -1");
            dueSteps(with(2, 1, 5, 5, 2, 7), 5, 0, "-1 -1");
            dueSteps(limited(0, with(2, 1, 5, 4, 10)), 17, 0, "-1 -1");
            CuckooAudit longest = with(3, 3, 5, 82, 2, 70, 57, 49, 24, 89, 21, 26, 1, 19, 41, 13, 73, 29, 37, 98, 15,
                    88, 80, 69, 54, 0);
            dueSteps(limited(50, longest), 42, 48, "28 33", "25 13", "-1 -1");
            dueSteps(limited(49, longest), 42, 46, "5 30", "2 28", "28 33", "-1 -1");
            dueSteps(limited(50, with(1, 1, 5, 36, 37)), 25, 48, "0 35", "4 50", "-1 -1");
        });
        edge(22, "Returns something about a step of the walk that would be made if a key were added", () -> {
            changesNothing("a walk that ends well", () -> with(2, 1, 5, 5, 2, 7), x -> x.walkStep(17, 1, true));
            changesNothing("one that does not", () -> with(1, 1, 5, 36, 37), x -> x.walkStep(25, 9, false));
            changesNothing("no step", Edges::busy, x -> x.walkStep(1, -1, false));
        });
    }

    // ---- leastMoves, roomFor

    private static void leastMoves() {
        edge(23, "Returns the number, 0 if one of the buckets has an empty slot", () -> {
            due("the home", withoutWalks(2, 1, 5, 10).leastMoves(1), 0);
            due("the other bucket", withoutWalks(2, 1, 5, 1).leastMoves(2), 0);
            due("the last slot of the other bucket", with(2, 3, 5, 1, 2, 9, 10, 16).leastMoves(12), 0);
        });
        edge(23, "how many entries would have to be moved at least, each from one of its two buckets to the other one,"
                + " so that one of the two buckets of a key has an empty slot", () -> {
            due("one", withoutWalks(2, 1, 5, 72, 68).leastMoves(12), 1);
            due("one from the other bucket", withoutWalks(2, 1, 5, 39, 14).leastMoves(67), 1);
            due("two", with(2, 1, 5, 5, 2, 7).leastMoves(17), 2);
            due("five", withoutWalks(3, 1, 5, 39, 12, 36, 46, 1, 27).leastMoves(52), 5);
        });
        edge(23, "NONE if it is not possible by any moves", () -> {
            due("a full filter", with(1, 1, 5, 1, 2).leastMoves(3), NONE);
            due("empty buckets that are not reached", with(2, 1, 5, 1, 2).leastMoves(9), NONE);
            due("another key of the same filter", with(2, 1, 5, 1, 2).leastMoves(5), 0);
        });
        edge(23, NONE_LAST, () -> {
            refused("a wrong key of a full filter", ARGUMENT, () -> with(1, 1, 5, 1, 2), x -> x.leastMoves(1000));
            refused("a wrong key of a full filter", ARGUMENT, () -> with(1, 1, 5, 1, 2), x -> x.leastMoves(-1));
        });
        edge(23, "(also if the key is present, or 120 keys are)", () -> {
            due("a present key", with(2, 1, 5, 5, 2, 7).leastMoves(7), 2);
            due("a present key without room", with(2, 1, 5, 1, 2).leastMoves(1), NONE);
            due("120 keys", crowd().leastMoves(500), 0);
            due("a present one of 120", crowd().leastMoves(0), 0);
        });
        edge(23, KEY_OUT_OF_RANGE, () -> refusesOtherKeys((x, key) -> x.leastMoves(key)));
        edge(23, "Returns how many entries would have to be moved", () -> {
            changesNothing("leastMoves", () -> with(2, 1, 5, 5, 2, 7), x -> x.leastMoves(17));
            changesNothing("leastMoves without a way", () -> with(2, 1, 5, 1, 2), x -> x.leastMoves(9));
        });
    }

    private static void roomFor() {
        edge(24, "Throws `IllegalArgumentException` if not 0 <= from <= to <= 999", () -> {
            refusesOtherRanges((x, from, to) -> x.roomFor(from, to));
        });
        edge(24, "Tells how many keys could be added one after the other: the keys from from to to", () -> {
            CuckooAudit x = with(6, 4, 8);
            due("the lowest", x.roomFor(0, 0), 1);
            due("the highest", x.roomFor(999, 999), 1);
            due("two", x.roomFor(998, 999), 2);
            due("the first 119", x.roomFor(0, 118), 119);
            due("the last 119", x.roomFor(881, 999), 119);
        });
        edge(24, "that are not present are added in thought, in ascending order", () -> {
            CuckooAudit x = with(6, 4, 8, 5);
            due("a present one", x.roomFor(5, 5), 0);
            due("one before it, one behind it", x.roomFor(4, 6), 2);
            due("120 present ones", crowd().roomFor(0, 119), 0);
            changesNothing("roomFor", Edges::busy, y -> y.roomFor(0, 999));
        });
    }

    private static void roomForEnds() {
        edge(24, "until adding fails or 120 keys are present.", () -> {
            due("120 keys", with(6, 4, 8).roomFor(0, 999), 120);
            due("the first 120", with(6, 4, 8).roomFor(0, 119), 120);
            due("one is present", with(6, 4, 8, 5).roomFor(0, 999), 119);
            due("120 are present", crowd().roomFor(120, 999), 0);
            due("119 are present", without(crowd(), 119).roomFor(0, 999), 1);
            CuckooAudit x = withoutWalks(2, 1, 5, 1, 2, 9, 12, 21);
            due("a key that fails first", x.roomFor(26, 30), 0);
            due("the keys behind it alone", x.roomFor(27, 28), 2);
            due("a key before it", x.roomFor(25, 30), 1);
        });
        edge(24, "Returns how many are added.", () -> {
            due("8 slots and the stash", new CuckooAudit().roomFor(0, 999), 11);
            due("2 slots and the stash", with(1, 1, 5).roomFor(0, 999), 5);
            due("none", with(1, 1, 5, 1, 2, 3, 4, 5).roomFor(0, 999), 0);
        });
    }
}
