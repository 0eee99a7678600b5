/**
 * The sentences of promises 9 to 16: what changes the filter. The keys used most, with seed 0 and 2 bits
 * (home, other bucket): 1, 2, 9, 12, 21 and 26 (1, 0); 10 (0, 1); 5 (1, 2); 7 and 17 (3, 0); 0 (2, 1); 4 (3, 2).
 */
final class ChangeEdges extends Edges {

    /** Tag 13, home 3, other bucket 2, and the same bits 2 to 6. */
    private static final int[] ALIKE = {365, 684, 704, 747};

    static void all() {
        addWithoutWalk();
        addWithWalk();
        addFindsNoRoom();
        addRefuses();
        shortestOrder();
        shortestMoves();
        shortestRefuses();
        deleteChooses();
        deleteLetsOut();
        deleteRefuses();
        growMoves();
        growWithStash();
        growRefuses();
        rebuild();
        rebuildRefuses();
        setLimit();
        setLength();
        clear();
    }

    /** The call saves one state more than the (at most three) saved ones, and that is undone. */
    private static void undoable(String what, Maker maker, Call call) {
        CuckooAudit x = maker.make();
        call.on(x);
        x.undo();
        due("all behind undo of " + what, allOf(x), allOf(maker.make()));
    }

    private static CuckooAudit added(CuckooAudit x, int key, int want) {
        due("add(" + key + ")", x.add(key), want);
        return x;
    }

    // ---- add

    private static void addWithoutWalk() {
        edge(9, "ADDING a key makes an entry with its tag, L = f and its fingerprint.", () -> {
            dueSlot(added(with(1, 1, 1), 505, 0), 1, 0, 45, 1, 1, 0);
            dueSlot(added(with(1, 1, 8), 505, 0), 1, 0, 45, 8, 255, 0);
            dueSlot(added(with(6, 1, 8), 0, 0), 62, 0, 35, 8, 29, 0);
        });
        edge(9, "If its home has an empty slot, the entry comes to the first one, with side 0", () -> {
            dueLayout(added(with(2, 3, 5), 1, 0), "-/-/- 30/-/- -/-/- -/-/-");
            dueLayout(added(with(2, 3, 5, 1, 2), 9, 0), "-/-/- 30/45/57 -/-/- -/-/-");
            dueLayout(added(without(with(2, 3, 5, 1, 2, 9), 1, 2), 12, 0), "-/-/- 21/-/57 -/-/- -/-/-");
            dueLayout(added(without(with(2, 3, 5, 1, 2, 9), 2), 12, 0), "-/-/- 30/21/57 -/-/- -/-/-");
            dueLayout(added(without(with(2, 3, 5, 1, 2, 9), 2, 9), 12, 0), "-/-/- 30/21/- -/-/- -/-/-");
        });
        edge(9, "otherwise, if its other bucket has an empty slot, to the first one, with side 1", () -> {
            dueLayout(added(with(2, 3, 5, 1, 2, 9), 12, 0), "21'/-/- 30/45/57 -/-/- -/-/-");
            dueLayout(added(with(2, 3, 5, 1, 2, 9, 10, 16), 12, 0), "29/54/21' 30/45/57 -/-/- -/-/-");
            dueLayout(added(without(with(2, 3, 5, 1, 2, 9, 10, 16, 24), 10, 24), 12, 0),
                    "21'/54/- 30/45/57 -/-/- -/-/-");
            dueLayout(added(without(with(2, 3, 5, 1, 2, 9, 10, 16, 24), 16, 24), 12, 0),
                    "29/21'/- 30/45/57 -/-/- -/-/-");
        });
        edge(9, "Returns the number of steps of the walk that were made (0 without a walk), or 100 if the entry came to"
                + " the stash.", () -> {
            added(with(2, 1, 5, 1), 10, 0);
            added(with(2, 1, 5, 1), 2, 0);
            added(with(2, 1, 5, 4, 10), 17, 1);
            added(with(2, 1, 5, 1, 2), 9, 100);
        });
    }

    private static void addWithWalk() {
        edge(9, "Otherwise a walk is made: the entry that is held is the new one, the bucket is the home of the key.",
                () -> {
            dueLayout(added(with(2, 1, 5, 4, 10), 17, 1), "29 - 45' 28");
        });
        edge(9, "the entry that is held comes to slot (i modulo s) of the bucket", () -> {
            dueLayout(added(with(3, 1, 5, 48, 52), 26, 2), "13 - - 11' - 61 - -");
            dueLayout(added(with(2, 2, 5, 46, 44, 29, 43, 32, 21), 55, 4), "42'/- 47/23' 5/0 42/2'");
            dueLayout(added(with(2, 3, 5, 51, 41, 49, 8, 4, 7), 11, 4), "35'/-/- -/-/- 33/63/45' 1'/9'/3");
            dueLayout(added(with(2, 4, 5, 25, 58, 9, 21, 31, 29, 33, 55, 38, 53, 34, 50, 5), 26, 8),
                    "59/61'/31/26 23'/42/57/44 50/0/37/40' 59/16'/-/-");
        });
        edge(9, "the bucket becomes the other one of the two buckets of this entry (the bucket xor the step of its"
                + " tag)", () -> {
            dueLayout(with(3, 1, 5, 48, 52), "11 - - - - 13' - -");
            dueLayout(added(with(3, 1, 5, 48, 52), 26, 2), "13 - - 11' - 61 - -");
            dueLayout(with(2, 1, 5, 5, 2, 7), "45' 44 - 3");
            dueLayout(added(with(2, 1, 5, 5, 2, 7), 17, 3), "3' 45 44' 28");
        });
        edge(9, "with side 0 if the bucket is its home, otherwise side 1, and the entry that was there is held", () -> {
            dueLayout(with(2, 1, 5, 22, 10, 39), "29 - 45 22");
            dueLayout(added(with(2, 1, 5, 22, 10, 39), 7, 4), "3' 29' 22' 45'");
            dueLayout(added(with(2, 3, 5, 57, 30, 28, 40, 46, 41, 7, 6, 45), 50, 8),
                    "3'/59'/35' 2'/-/- 15/1'/34 16/28'/2'");
        });
        edge(9, "if this has an empty slot, the held entry comes to the first one there, with the side that belongs to"
                + " it, and the walk ends", () -> {
            dueLayout(added(with(2, 3, 5, 5, 0, 1, 43, 3, 14, 40), 44, 2), "-/-/- 47/30/15' 35/44'/8 42/14'/-");
            dueLayout(added(without(with(2, 3, 5, 20, 11, 30, 32, 44, 45, 40, 28, 21), 45), 36, 1),
                    "2/-/- 47/15'/42 35/33/5 37'/1/-");
            dueLayout(added(without(with(2, 4, 5, 11, 5, 49, 43, 41, 37, 13, 55, 21, 1, 8, 33), 1, 5), 23, 2),
                    "-/-/-/- 63'/23'/42/- 33/42'/50/13 42/35/1'/37'");
        });
        edge(9, "In step number i (from 0), as long as i is smaller than the walk limit", () -> {
            due("three steps of three", limited(3, 2, 1, 5, 2, 7).add(17), 3);
            due("three steps of two", limited(2, 2, 1, 5, 2, 7).add(17), 100);
            due("one step of one", limited(1, 2, 1, 4, 10).add(17), 1);
            due("one step of none", limited(0, 2, 1, 4, 10).add(17), 100);
            due("fifty steps of 50", manySteps(50).add(42), 50);
            due("fifty steps of 49", manySteps(49).add(42), 100);
        });
    }

    /** A filter of length 5, in which the walk limit is set behind the adding. */
    private static CuckooAudit limited(int limit, int bits, int slots, int... keys) {
        CuckooAudit x = with(bits, slots, 5, keys);
        x.setLimit(limit);
        return x;
    }

    /** Adding 42 takes just 50 steps here. */
    private static CuckooAudit manySteps(int limit) {
        return limited(limit, 3, 3, 82, 2, 70, 57, 49, 24, 89, 21, 26, 1, 19, 41, 13, 73, 29, 37, 98, 15, 88, 80, 69,
                54, 0);
    }

    private static void addFindsNoRoom() {
        String restored = "If the walk ends without that, all slots are as they were before the walk";
        edge(9, restored, () -> {
            int[] limits = {0, 1, 2, 3, 9, 10, 50};
            for (int limit : limits) {
                dueLayout(added(limited(limit, 1, 1, 36, 37), 25, 100), "35 50' +59@0");
                dueLayout(added(limited(limit, 1, 2, 3, 58, 32, 13), 2, 100), "14/50 5'/13' +45@1");
                dueLayout(added(limited(limit, 1, 3, 25, 59, 58, 57, 6, 30), 43, 100), "59/61/50 28'/34'/2' +42@1");
            }
            dueLayout(added(manySteps(49), 42, 100), "28/30'/1 14/45/42 0/63/3' 35/51/- 5/8'/33' 61/19'/44' 35/13/33'"
                    + " 60/29'/50' +36@7");
            CuckooAudit x = mixedLengths();
            added(x, 21, 100);
            dueSlot(x, 1, 0, 30, 7, 48, 0);
            dueSlot(x, 0, 0, 45, 3, 6, 1);
        });
        edge(9, "and the new entry comes to the stash, if there is room; otherwise adding fails.", () -> {
            CuckooAudit x = with(1, 1, 5, 36, 37);
            added(x, 25, 100);
            added(x, 0, 100);
            dueLayout(added(x, 1, 100), "35 50' +59@0 +35@0 +30@1");
            refused("add without room", STATE, () -> with(1, 1, 5, 36, 37, 25, 0, 1), y -> y.add(2));
            refused("add without room and walks", STATE, () -> withoutWalks(1, 1, 5, 36, 37, 25, 0, 1), y -> y.add(2));
        });
        edge(9, "and a stash of at most 3 entries, in the order in which they came.", () -> {
            CuckooAudit x = withoutWalks(1, 1, 5, 1, 2, 3, 4, 5);
            dueLayout(x, "45' 30 +14@0 +45@1 +44@1");
            due("its size", x.info(6), 3);
        });
    }

    private static CuckooAudit mixedLengths() {
        CuckooAudit x = with(2, 1, 7, 1);
        x.setLength(3);
        x.add(2);
        x.setLength(8);
        return x;
    }

    private static void addRefuses() {
        edge(9, KEY_OUT_OF_RANGE, () -> refusesOtherKeys((x, key) -> x.add(key)));
        edge(9, "Throws `IllegalStateException` if the key is present, 120 keys are present, or adding it fails",
                () -> {
            refused("a present key", STATE, Edges::busy, x -> x.add(1));
            refused("a present key in the stash", STATE, Edges::busy, x -> x.add(3));
            refused("a present key of 120", STATE, Edges::crowd, x -> x.add(119));
            refused("a key more than 120", STATE, Edges::crowd, x -> x.add(120));
            refused("a key without room", STATE, () -> with(1, 1, 5, 1, 2, 3, 4, 5), x -> x.add(6));
        });
        edge(9, "a key is in it at most once", () -> {
            CuckooAudit x = with(2, 2, 5, 365);
            due("a key that is found, but not present", x.add(684), 0);
            due("the keys", keysOf(x), "365 684");
            due("a key that was deleted", without(x, 365).add(365), 0);
            due("the keys", keysOf(x), "684 365");
        });
        edge(9, "At most 120 keys are present.", () -> {
            CuckooAudit x = without(crowd(), 119);
            added(x, 999, 0);
            due("the last key", x.present(119), 999);
            refused("one more", STATE, () -> added(without(crowd(), 119), 999, 0), y -> y.add(119));
        });
        edge(9, LISTED_FIRST, () -> {
            refused("a wrong key and 120 keys", ARGUMENT, Edges::crowd, x -> x.add(1000));
            refused("a wrong key and no room", ARGUMENT, () -> with(1, 1, 5, 1, 2, 3, 4, 5), x -> x.add(-1));
        });
        edge(9, "Adds a key. Undoable.", () -> {
            undoable("the first one", CuckooAudit::new, x -> x.add(999));
            undoable("a walk", () -> with(2, 1, 5, 4, 10), x -> x.add(17));
            undoable("one to the stash", () -> with(2, 1, 5, 1, 2), x -> x.add(9));
            undoable("the last of the stash", () -> inOneText(2, 1, 5, 1, 2, 9, 12), x -> x.add(21));
        });
    }

    // ---- addShortest

    private static void shortest(String want, int moves, CuckooAudit x, int key) {
        String before = keysOf(x);
        due("leastMoves(" + key + ")", x.leastMoves(key), moves);
        due("addShortest(" + key + ")", x.addShortest(key), moves);
        dueLayout(x, want);
        due("the keys", keysOf(x), before + " " + key);
    }

    private static void shortestOrder() {
        edge(10, "ADDING WITH AS FEW MOVES AS POSSIBLE: Buckets are reached one after the other: first the home of the"
                + " key, then its other bucket", () -> {
            shortest("-/- 56/61 -/- 35/-", 0, withoutWalks(2, 2, 5, 41, 68), 26);
            shortest("59/24 26'/18' -/- -/-", 0, withoutWalks(2, 2, 5, 25, 35, 31), 56);
            shortest("12 21 56' -", 1, withoutWalks(2, 1, 5, 72, 68), 12);
            shortest("30'/- 44/56 25/13 -/-", 1, withoutWalks(2, 2, 5, 27, 13, 1, 68), 5);
            shortest("- 8' 59' 45'", 1, withoutWalks(2, 1, 5, 39, 14), 67);
        });
        edge(10, "then, from each reached bucket, in the order in which they were reached", () -> {
            shortest("36' - 52 - - 50 - 50'", 1, withoutWalks(3, 1, 5, 42, 79, 62), 37);
            shortest("13/-/- 45/-/- 34/50/63 33'/-/- -/-/- -/-/- 50/13/- 27/36/22", 1,
                    withoutWalks(3, 3, 5, 77, 11, 37, 2, 58, 42, 22, 52, 49, 13), 63);
        });
        edge(10, "The first bucket in this order that has an empty slot ends the chain", () -> {
            shortest("3'/13 26'/- 34/37 22/35", 1, withoutWalks(2, 2, 5, 63, 22, 64, 31, 52, 33), 7);
            shortest("18/2/59 23'/-/- 25/42'/29 16/1/8'", 1,
                    withoutWalks(2, 3, 5, 27, 55, 45, 56, 70, 30, 28, 25, 61), 43);
        });
        edge(10, "for its entries in the order of their slots, the other one of the two buckets of the entry", () -> {
            shortest("-/- 47'/- -/- -/- -/- -/- 9/37 16/27", 1, withoutWalks(3, 2, 5, 45, 18, 20, 77), 51);
            shortest("8'/- -/- 25/29 45/36", 1, withoutWalks(2, 2, 5, 54, 27, 42, 70), 4);
            shortest("44'/- -/- 9/25 14/14'", 1, withoutWalks(2, 2, 5, 51, 75, 65, 27), 3);
        });
        edge(10, "if it is not reached yet", () -> {
            shortest("1/24/- 35'/-/- 5/50/52 39/-/- -/-/- -/-/- 37/-/- 8/36/35", 1,
                    withoutWalks(3, 3, 5, 54, 69, 42, 32, 36, 35, 20, 74, 64, 79), 37);
            due("only buckets that are reached", with(2, 1, 5, 1, 2).leastMoves(9), NONE);
        });
    }

    private static void shortestMoves() {
        edge(10, "The entry by which the last bucket was reached comes to the first empty slot there", () -> {
            shortest("-/-/- 45/59/47 0/15/14 45'/37'/-", 1, withoutWalks(2, 3, 5, 2, 67, 29, 33, 44, 3, 39), 40);
        });
        edge(10, "the entry by which the bucket before was reached comes to the slot that has become empty, and so on",
                () -> {
            dueLayout(withoutWalks(3, 1, 5, 1, 45, 3, 0, 12), "21' 30 - - - 35' 14 16");
            shortest("1 30 - - 16' 21 35 14'", 4, withoutWalks(3, 1, 5, 1, 45, 3, 0, 12), 69);
        });
        edge(10, "the chain leads from it back, to the bucket from which it was reached by an entry, and so on, to the"
                + " home or the other bucket of the key.", () -> {
            dueLayout(withoutWalks(3, 1, 5, 67, 31, 42, 22, 60), "26 59 26' - - - 22' 36");
            shortest("36' 59 26' - - 26' 47 22", 3, withoutWalks(3, 1, 5, 67, 31, 42, 22, 60), 18);
            dueLayout(withoutWalks(3, 1, 5, 6, 22, 49, 91, 42, 31), "36' 31' 63 - - 26' 34 22");
            shortest("61' 31' 63 34' - 26' 22' 36", 3, withoutWalks(3, 1, 5, 6, 22, 49, 91, 42, 31), 26);
        });
        edge(10, "the new entry comes to the last slot that has become empty (or, without moves, to the first empty"
                + " slot).", () -> {
            shortest("-/-/- 21/-/57 -/-/- -/-/-", 0, without(with(2, 3, 5, 1, 2, 9), 1, 2), 12);
            shortest("21'/54/- 30/45/57 -/-/- -/-/-", 0, without(with(2, 3, 5, 1, 2, 9, 10, 16, 24), 10, 24), 12);
            shortest("29 - 45' 28", 1, with(2, 1, 5, 4, 10), 17);
        });
        edge(10, "Each has the side that belongs to its bucket.", () -> {
            dueLayout(withoutWalks(3, 1, 5, 39, 12, 36, 46, 1, 27), "30' 35' 45 - - 21 2 25'");
            shortest("13 30 35 2' - 21 25 45'", 5, withoutWalks(3, 1, 5, 39, 12, 36, 46, 1, 27), 52);
        });
        edge(10, "Returns the number of entries that were moved.", () -> {
            CuckooAudit x = with(4, 1, 5);
            for (int key : new int[] {970, 593, 675, 238, 835, 961, 339, 328, 558, 826, 49, 967, 656}) {
                due("addShortest(" + key + ")", x.addShortest(key), 0);
            }
            shortest("- 47' 63 7' 62 33 4' 49 40 15' 30 22' 48 2' 40' -", 10, x, 816);
        });
        edge(10, "Adds a key with as few moves as possible, without the stash. Undoable.", () -> {
            due("add comes to the stash", with(2, 1, 5, 1, 2).add(9), 100);
            refused("addShortest does not", STATE, () -> with(2, 1, 5, 1, 2), x -> x.addShortest(9));
            due("a full stash does not matter", with(2, 1, 5, 1, 2, 9, 12, 21).addShortest(17), 0);
            due("a limit of 0 does not matter", limited(0, 2, 1, 5, 2, 7).addShortest(17), 2);
            undoable("the first one", CuckooAudit::new, x -> x.addShortest(999));
            undoable("moves", () -> with(2, 1, 5, 4, 10), x -> x.addShortest(17));
        });
    }

    private static void shortestRefuses() {
        edge(10, KEY_OUT_OF_RANGE, () -> refusesOtherKeys((x, key) -> x.addShortest(key)));
        edge(10, "Throws `IllegalStateException` if the key is present, 120 keys are present, or leastMoves() is"
                + " NONE", () -> {
            refused("a present key", STATE, Edges::busy, x -> x.addShortest(1));
            refused("a present key in the stash", STATE, Edges::busy, x -> x.addShortest(3));
            refused("a key twice", STATE, ChangeEdges::addedShortest, x -> x.addShortest(7));
            refused("a key twice, by add", STATE, ChangeEdges::addedShortest, x -> x.add(7));
            refused("a present key though there is room", STATE, () -> with(2, 2, 5, 1), x -> x.addShortest(1));
            refused("a key more than 120", STATE, Edges::crowd, x -> x.addShortest(120));
            refused("a full filter", STATE, () -> with(1, 1, 5, 1, 2), x -> x.addShortest(3));
            refused("empty buckets that are not reached", STATE, () -> with(2, 1, 5, 1, 2), x -> x.addShortest(9));
        });
        edge(10, LISTED_FIRST, () -> {
            refused("a wrong key and 120 keys", ARGUMENT, Edges::crowd, x -> x.addShortest(1000));
            refused("a wrong key and no room", ARGUMENT, () -> with(1, 1, 5, 1, 2), x -> x.addShortest(-1));
        });
    }

    private static CuckooAudit addedShortest() {
        CuckooAudit x = with(2, 2, 5, 1, 2);
        due("addShortest(7)", x.addShortest(7), 0);
        return x;
    }

    // ---- delete

    /** Four keys whose entries differ in their lengths alone. */
    private static CuckooAudit alike(int slots, int... lengths) {
        CuckooAudit x = withoutWalks(2, slots, 5);
        for (int i = 0; i < ALIKE.length; i++) {
            x.setLength(lengths[i]);
            x.add(ALIKE[i]);
        }
        return x;
    }

    private static void deleteChooses() {
        edge(11, "DELETING a present key: of the entries that match it and by which it is found, one with the greatest"
                + " length is removed", () -> {
            lengthsLeft("4 3 2", alike(4, 5, 4, 3, 2), 747, 12);
            lengthsLeft("2 3 4", alike(4, 2, 3, 4, 5), 365, 15);
            lengthsLeft("2 4 3", alike(4, 2, 5, 4, 3), 704, 13);
            lengthsLeft("2 3 4", alike(1, 2, 3, 4, 5), 365, 1001);
            lengthsLeft("2 3 4", alike(1, 2, 3, 5, 4), 365, 1000);
            lengthsLeft("2 4 3", alike(1, 2, 5, 4, 3), 365, 8);
            lengthsLeft("2 4 3", alike(1, 5, 4, 2, 3), 365, 12);
        });
        edge(11, "of several the first one, where the slots of the home come first, in ascending order, then those of"
                + " the other bucket, then the stash.", () -> {
            for (int same = 0; same < 16; same++) {
                int[] lengths = new int[4];
                int first = 3;
                for (int i = 3; i >= 0; i--) {
                    lengths[i] = (same >> i & 1) == 1 ? 5 : 3;
                    first = lengths[i] == 5 || same == 0 ? i : first;
                }
                chosen(alike(4, lengths), new int[] {12, 13, 14, 15}[first]);
                chosen(alike(2, lengths), new int[] {12, 13, 8, 9}[first]);
                chosen(alike(1, lengths), new int[] {12, 8, 1000, 1001}[first]);
            }
        });
        edge(11, "Deletes a key. Undoable.", () -> {
            undoable("the only key", () -> with(2, 2, 5, 999), x -> x.delete(999));
            undoable("one from the stash", () -> inOneText(1, 1, 5, 1, 2, 3), x -> x.delete(3));
            undoable("one that lets another out", () -> inOneText(1, 1, 5, 1, 2, 3), x -> x.delete(2));
        });
    }

    private static void lengthsLeft(String want, CuckooAudit x, int key, int place) {
        due("place(" + key + ")", x.place(key), place);
        x.delete(key);
        StringBuilder left = new StringBuilder();
        for (int bucket = 3; bucket >= 2; bucket--) {
            for (int slot = 0; slot < x.info(1); slot++) {
                left.append(x.slot(bucket, slot, 1) == NONE ? "" : " " + x.slot(bucket, slot, 1));
            }
        }
        for (int i = 0; i < x.info(6); i++) {
            left.append(' ').append(x.stashed(i, 1));
        }
        due("the lengths that are left", left.toString().trim(), want);
    }

    /** Each of the four keys has the same place. */
    private static void chosen(CuckooAudit x, int place) {
        for (int key : ALIKE) {
            due("place(" + key + ")", x.place(key), place);
        }
        x.delete(365);
        if (x.info(1) > 1) {
            due("the slot behind delete", x.slot(place / 4, place % 4, 0), NONE);
        }
    }

    private static void deleteLetsOut() {
        edge(11, "Then each entry of the stash, in order, whose home or other bucket has an empty slot, leaves the"
                + " stash", () -> {
            CuckooAudit x = withoutWalks(2, 1, 5, 1, 2, 7, 0, 9, 4);
            dueLayout(x, "45' 30 35 3 +57@1 +45@3");
            due("the second one leaves", x.delete(0), 1);
            dueLayout(x, "45' 30 45' 3 +57@1");
            CuckooAudit y = withoutWalks(2, 1, 5, 1, 2, 9, 12, 21);
            due("one from the middle of the stash", y.delete(12), 0);
            dueLayout(y, "45' 30 - - +57@1 +42@1");
            due("the last one of the stash", y.delete(21), 0);
            dueLayout(y, "45' 30 - - +57@1");
            due("the first one of the stash", y.delete(9), 0);
            dueLayout(y, "45' 30 - -");
        });
        edge(11, "and comes to the first empty slot of its home, with side 0, or if there is none, to that of its other"
                + " bucket, with side 1.", () -> {
            CuckooAudit x = withoutWalks(2, 1, 5, 1, 2, 9, 12, 21);
            dueLayout(x, "45' 30 - - +57@1 +21@1 +42@1");
            due("to its home", x.delete(1), 1);
            dueLayout(x, "45' 57 - - +21@1 +42@1");
            due("to its other bucket", x.delete(2), 1);
            dueLayout(x, "21' 57 - - +42@1");
        });
        edge(11, "Returns how many entries left the stash for a bucket.", () -> {
            due("an empty stash", with(2, 2, 5, 1, 2).delete(1), 0);
            due("none of one", with(2, 1, 5, 1, 2, 9, 7).delete(7), 0);
            due("one of three", withoutWalks(1, 1, 5, 1, 2, 3, 4, 5).delete(1), 1);
        });
    }

    private static void deleteRefuses() {
        edge(11, "At most 120 keys are present.", () -> {
            CuckooAudit x = crowd();
            due("one of 120", x.delete(1), 0);
            due("those around it", x.present(0) + " " + x.present(1) + " " + x.present(118), "0 2 119");
            due("the last one", x.delete(119) + " " + x.present(117) + " " + x.count(), "0 118 118");
        });
        edge(11, KEY_OUT_OF_RANGE, () -> refusesOtherKeys((x, key) -> x.delete(key)));
        edge(11, "Throws `IllegalStateException` if the key is not present", () -> {
            refused("a key of none", STATE, CuckooAudit::new, x -> x.delete(0));
            refused("a key that is not found", STATE, Edges::busy, x -> x.delete(999));
            refused("a key that is found, but not present", STATE, () -> with(2, 2, 5, 365), x -> x.delete(684));
            refused("a key that was deleted", STATE, () -> without(with(2, 2, 5, 365, 684), 365), x -> x.delete(365));
            refused("a key behind 120", STATE, Edges::crowd, x -> x.delete(120));
            refused("a key behind clear", STATE, ChangeEdges::cleared, x -> x.delete(1));
        });
        edge(11, LISTED_FIRST, () -> {
            refused("a wrong key, which is not present", ARGUMENT, CuckooAudit::new, x -> x.delete(1000));
        });
    }

    private static CuckooAudit cleared() {
        CuckooAudit x = busy();
        x.clear();
        return x;
    }

    // ---- grow

    private static void growMoves() {
        edge(12, "DOUBLING: b becomes b + 1.", () -> {
            CuckooAudit x = with(1, 4, 5);
            for (int buckets = 4; buckets <= 64; buckets *= 2) {
                x.grow();
                due("the numbers", numbersOf(x), buckets + " 4 5 0 10");
            }
        });
        edge(12, "Returns the new number of buckets.", () -> {
            CuckooAudit x = with(1, 1, 5);
            for (int buckets = 4; buckets <= 64; buckets *= 2) {
                due("grow", x.grow(), buckets);
            }
        });
        edge(12, "Each entry of length L gives the lowest bit of its fingerprint, c, to its home, which becomes its old"
                + " home + c * 2^(old b)", () -> {
            CuckooAudit x = with(1, 4, 5, 1, 2, 4, 5, 9, 7, 15, 19);
            dueLayout(x, "57'/3'/33'/3' 30/45/45/44");
            x.grow();
            dueLayout(x, "57'/3'/-/- 30/45/-/44 -/-/33'/3' -/-/45/-");
            CuckooAudit all = with(2, 4, 5, 0, 1, 2, 3, 4, 5, 6, 7, 8, 9, 10, 11, 12, 13, 16, 17);
            dueLayout(all, "29/21'/54/28' 30/45/44/57 35/14/34/1 45/3/33'/13'");
            all.grow();
            dueLayout(all, "-/21'/-/- 30/45/-/57 -/-/-/- 45/-/33'/13' 29/-/54/28' -/-/44/- 35/14/34/1 -/3/-/-");
            CuckooAudit last = with(5, 1, 8, 505);
            last.grow();
            due("bucket 31 of 32 with the bit 1", last.place(505), 252);
        });
        edge(12, "its length becomes L - 1, its fingerprint the remaining bits, shifted down by one", () -> {
            CuckooAudit longest = with(5, 1, 8, 505);
            dueSlot(longest, 31, 0, 45, 8, 255, 0);
            longest.grow();
            dueSlot(longest, 63, 0, 45, 7, 127, 0);
            CuckooAudit shortest = with(1, 1, 1, 1, 2);
            dueSlot(shortest, 1, 0, 30, 1, 0, 0);
            shortest.grow();
            dueSlot(shortest, 1, 0, 30, 0, 0, 0);
            dueSlot(shortest, 0, 0, 45, 0, 0, 1);
        });
        edge(12, "Each entry stays in the same slot number of its home (side 0) or of its home xor its step (side 1),"
                + " with the new b.", () -> {
            CuckooAudit x = without(with(1, 4, 5, 0, 3, 6, 8, 1, 2), 3, 0);
            dueLayout(x, "-/-/34/1 30/45/-/-");
            x.grow();
            dueLayout(x, "-/-/-/- 30/45/-/- -/-/34/1 -/-/-/-");
            x.grow();
            due("8 buckets", layout(x), "-/-/-/- 30/45/-/- -/-/-/- -/-/-/- -/-/-/- -/-/-/- -/-/34/1 -/-/-/-");
        });
        edge(12, "Each entry of length L gives the lowest bit of its fingerprint", () -> {
            for (int[] pair : KeyEdges.PAIRS) {
                for (int length = 1; length <= 8; length++) {
                    foundAlikeBehindGrow(pair, length);
                }
            }
        });
        edge(12, "Doubles the number of buckets. Undoable.", () -> {
            undoable("an empty filter", CuckooAudit::new, x -> x.grow());
            undoable("one with keys", () -> with(1, 4, 5, 1, 2), x -> x.grow());
            undoable("one with a stash", () -> inOneText(1, 1, 5, 1, 2, 3), x -> x.grow());
        });
    }

    /** Bits of the home and the fingerprint are as many as before, so the same keys are found by an entry. */
    private static void foundAlikeBehindGrow(int[] pair, int length) {
        CuckooAudit x = new CuckooAudit();
        x.rebuild(1, 1, length, pair[1]);
        x.add(pair[2]);
        for (int grown = 0; grown <= length && grown < 6; grown++) {
            due(pair[2] + " of length " + length + " behind " + grown, x.found(pair[2]), true);
            due(pair[3] + " of length " + length + " behind " + grown, x.found(pair[3]), pair[0] >= 1 + length);
            if (grown < length && grown < 5) {
                x.grow();
            }
        }
    }

    private static void growWithStash() {
        edge(12, "Entries of the stash get their new home likewise, and stay in the stash; then they leave it as after"
                + " deleting.", () -> {
            CuckooAudit one = withoutWalks(1, 1, 5, 13, 2, 5, 4, 18);
            dueLayout(one, "13 45 +44@1 +45@1 +47@0");
            due("grow", one.grow(), 4);
            dueLayout(one, "- 45 13 45 +44@1 +47@2");
            CuckooAudit three = withoutWalks(1, 2, 5, 3, 6, 1, 10, 11, 2, 9);
            dueLayout(three, "14/34 30/29' +33@0 +45@1 +57@1");
            due("grow", three.grow(), 4);
            dueLayout(three, "45'/57' 30/29' 14/34 33'/-");
            CuckooAudit order = withoutWalks(1, 1, 5, 0, 3, 36, 32, 1);
            dueLayout(order, "35 14' +35@0 +5@0 +30@1");
            due("grow", order.grow(), 4);
            dueLayout(order, "30' 35' 35 14' +5@2");
            due("the length of the one that stays", order.stashed(0, 1), 4);
        });
    }

    private static void growRefuses() {
        edge(12, "Doubling is possible if b is less than 6 and every entry has a length of at least 1.", () -> {
            due("b 5", with(5, 1, 1, 0).grow(), 64);
            refused("b 6", STATE, () -> with(6, 1, 8, 0), x -> x.grow());
            refused("b 6 without keys", STATE, () -> with(6, 4, 8), x -> x.grow());
            due("length 1", with(1, 1, 1, 0).grow(), 4);
            refused("length 0", STATE, ChangeEdges::ofLengthZero, x -> x.grow());
            refused("length 0 in the stash", STATE, ChangeEdges::ofLengthZeroInStash, x -> x.grow());
            due("without the entry of length 0", without(ofLengthZero(), 0).grow(), 8);
            due("without the entry of length 0", without(ofLengthZeroInStash(), 9).grow(), 8);
        });
        edge(12, "Throws `IllegalStateException` if doubling is not possible", () -> {
            refused("120 keys", STATE, Edges::crowd, x -> x.grow());
            refused("length 0 among others", STATE, ChangeEdges::ofLengthZero, x -> x.grow());
        });
    }

    /** An entry of length 0 in a slot behind one of length 4. */
    private static CuckooAudit ofLengthZero() {
        CuckooAudit x = with(1, 1, 5, 1);
        x.setLength(1);
        x.add(0);
        x.grow();
        due("the smallest length", x.info(7), 0);
        return x;
    }

    private static CuckooAudit ofLengthZeroInStash() {
        CuckooAudit x = withoutWalks(1, 1, 5, 1, 2);
        x.setLength(1);
        x.add(9);
        x.grow();
        due("the length in the stash", x.stashed(0, 1), 0);
        return x;
    }

    // ---- rebuild

    private static void rebuild() {
        edge(13, "REBUILDING: all slots and the stash are emptied, and all present keys are added anew in their order",
                () -> {
            CuckooAudit x = without(with(2, 1, 5, 1, 2), 1);
            x.add(1);
            dueLayout(x, "45' 30 - -");
            x.rebuild(2, 1, 5, 0);
            dueLayout(x, "30' 45 - -");
            CuckooAudit y = ofLengthZero();
            y.rebuild(1, 1, 8, 0);
            due("the smallest length", y.info(7), 8);
            due("the keys", keysOf(y), "1 0");
            CuckooAudit z = withoutWalks(1, 1, 5, 1, 2, 3);
            due("nothing is left in the stash", z.rebuild(2, 1, 5, 0), 0);
            dueLayout(z, "45' 30 14 -");
        });
        edge(13, "with the walk limit as it is.", () -> {
            due("a limit of 2", limited(2, 2, 1, 5, 2, 7).rebuild(2, 1, 5, 0), 0);
            CuckooAudit x = limited(10, 2, 1, 5, 2, 7, 17);
            due("a limit of 10", x.rebuild(2, 1, 5, 0), 0);
            x.setLimit(2);
            due("a limit of 2", x.rebuild(2, 1, 5, 0), 1);
            due("the limit", x.info(4), 2);
        });
        edge(13, "It is possible if adding fails for none of them.", () -> {
            due("five keys", few(5).rebuild(1, 1, 4, 0), 3);
            refused("six keys", STATE, () -> few(6), x -> x.rebuild(1, 1, 4, 0));
            due("no keys", few(0).rebuild(1, 1, 1, 99), 0);
        });
        edge(13, "Returns the number of entries in the stash.", () -> {
            for (int keys = 0; keys <= 5; keys++) {
                CuckooAudit x = few(keys);
                due(keys + " keys", x.rebuild(1, 1, 4, 0), keys < 2 ? 0 : keys - 2);
                due("the stash", x.info(6), keys < 2 ? 0 : keys - 2);
            }
            due("120 keys", crowd().rebuild(6, 3, 8, 0), 0);
            due("120 keys", crowd().rebuild(5, 4, 8, 0), 1);
        });
        edge(13, "Rebuilds the filter with other numbers. Undoable.", () -> {
            undoable("the same numbers", () -> few(2), x -> x.rebuild(2, 4, 5, 0));
            undoable("no keys", CuckooAudit::new, x -> x.rebuild(6, 4, 8, 99));
            undoable("a stash", () -> few(2), x -> x.rebuild(1, 1, 1, 50));
        });
    }

    /** The keys from 1 on; two saved states. */
    private static CuckooAudit few(int keys) {
        int[] all = new int[keys];
        for (int i = 0; i < keys; i++) {
            all[i] = i + 1;
        }
        return inOneText(2, 4, 5, all);
    }

    private static void rebuildRefuses() {
        String[] ranges = {"- `bits`: the new b, 1 to 6", "- `slots`: the new s, 1 to 4",
            "- `length`: the new f, 1 to 8", "- `seed`: the new seed, 0 to 99"};
        int[][] limits = {{1, 6}, {1, 4}, {1, 8}, {0, 99}};
        for (int place = 0; place < ranges.length; place++) {
            int at = place;
            edge(13, ranges[at], () -> {
                for (int good : limits[at]) {
                    int[] a = {3, 2, 5, 7};
                    a[at] = good;
                    CuckooAudit x = few(3);
                    due("rebuild with " + good, x.rebuild(a[0], a[1], a[2], a[3]), x.info(6));
                    due("it", x.info(at), at == 0 ? 1 << good : good);
                }
                refusesOtherNumbers(limits[at][0], limits[at][1], (x, bad) -> {
                    int[] a = {3, 2, 5, 7};
                    a[at] = bad;
                    x.rebuild(a[0], a[1], a[2], a[3]);
                });
            });
        }
        edge(13, "Throws `IllegalArgumentException` if an argument is out of range", () -> {
            refusedEverywhere("all four", ARGUMENT, x -> x.rebuild(0, 0, 0, -1));
            refusedEverywhere("all four", ARGUMENT, x -> x.rebuild(7, 5, 9, 100));
        });
        edge(13, "Throws `IllegalStateException` if rebuilding is not possible", () -> {
            refused("six keys for five places", STATE, () -> few(6), x -> x.rebuild(1, 1, 8, 3));
            refused("120 keys for 67 places", STATE, Edges::crowd, x -> x.rebuild(6, 1, 8, 0));
        });
        edge(13, LISTED_FIRST, () -> {
            refused("a wrong seed and no room", ARGUMENT, Edges::crowd, x -> x.rebuild(1, 1, 1, 100));
            refused("a wrong b and no room", ARGUMENT, Edges::crowd, x -> x.rebuild(0, 1, 1, 0));
        });
    }

    // ---- setLimit, setLength, clear

    private static void setLimit() {
        edge(14, "- `limit`: the new limit, 0 to 50", () -> {
            CuckooAudit x = new CuckooAudit();
            due("setLimit(50)", x.setLimit(50), 10);
            due("setLimit(0)", x.setLimit(0), 50);
            due("the limit", x.info(4), 0);
        });
        edge(14, "Throws `IllegalArgumentException` if limit is out of range", () -> {
            refusesOtherNumbers(0, 50, (x, limit) -> x.setLimit(limit));
        });
        edge(14, "Returns the limit before.", () -> {
            CuckooAudit x = new CuckooAudit();
            due("a new object", x.setLimit(10), 10);
            due("the same again", x.setLimit(3), 10);
        });
        edge(14, "Sets the walk limit. Undoable.", () -> {
            undoable("the same limit", CuckooAudit::new, x -> x.setLimit(10));
            undoable("another limit", () -> few(2), x -> x.setLimit(0));
        });
    }

    private static void setLength() {
        edge(15, "- `length`: the new f, 1 to 8", () -> {
            CuckooAudit x = new CuckooAudit();
            due("setLength(8)", x.setLength(8), 5);
            due("setLength(1)", x.setLength(1), 8);
            due("the length", x.info(2), 1);
        });
        edge(15, "Throws `IllegalArgumentException` if length is out of range", () -> {
            refusesOtherNumbers(1, 8, (x, length) -> x.setLength(length));
        });
        edge(15, "Returns the length before.", () -> {
            CuckooAudit x = new CuckooAudit();
            due("a new object", x.setLength(5), 5);
            due("the same again", x.setLength(3), 5);
        });
        edge(15, "Sets the fingerprint length for keys that are added from now on. Undoable.", () -> {
            CuckooAudit x = withoutWalks(1, 1, 8, 1, 2, 3);
            x.setLength(1);
            due("the lengths before", x.slot(1, 0, 1) + " " + x.slot(0, 0, 1) + " " + x.stashed(0, 1), "8 8 8");
            x.add(4);
            due("the length behind", x.stashed(1, 1), 1);
            undoable("the same length", CuckooAudit::new, y -> y.setLength(5));
            undoable("another length", () -> few(2), y -> y.setLength(8));
        });
    }

    private static void clear() {
        edge(16, "Empties all slots, the stash and the list of present keys. Undoable.", () -> {
            CuckooAudit x = busy();
            x.clear();
            dueLayout(x, "- -");
            due("the stash", x.info(6), 0);
            due("the numbers stay", numbersOf(x), "2 1 3 0 0");
            due("the text stays", x.clearText(), 10);
            due("a key can be added again", x.add(1), 0);
            undoable("nothing", CuckooAudit::new, y -> y.clear());
            undoable("keys", () -> few(2), y -> y.clear());
        });
        edge(16, "Returns how many keys were present.", () -> {
            due("none", new CuckooAudit().clear(), 0);
            due("four", busy().clear(), 4);
            due("120", crowd().clear(), 120);
            due("none behind clear", cleared().clear(), 0);
        });
    }
}
