/**
 * A cuckoo filter that can be audited. The document's promises are kept by the public methods; each of
 * them tests its arguments, and leaves the work to the classes inside.
 */
public final class CuckooAudit {
    public static final int NONE = -1;

    private static final int KEYS = 1000;
    private static final int MAX_PRESENT = 120;
    private static final int MAX_BITS = 6;
    private static final int MAX_BUCKETS = 64;
    private static final int MAX_SLOTS = 4;
    private static final int MAX_LENGTH = 8;
    private static final int MAX_SEED = 99;
    private static final int MAX_LIMIT = 50;
    private static final int MAX_STASH = 3;
    private static final int MAX_SAVED = 4;
    private static final int MAX_TEXT = 100;
    private static final int MAX_SEEDS_TRIED = 20;
    private static final int LAST_INFO = 8;
    private static final int LAST_PART = 3;

    private static final int EMPTY = -1;
    private static final int TO_STASH = 100;
    private static final int STASH_PLACE = 1000;
    private static final int SYNTAX_ERROR = -10;
    private static final int COMMAND_FAILS = -1000;

    private final Filter current;
    // What is only predicted, or may still fail, is done here, so that nothing has to be put back.
    private final Filter thought;
    private final History history;
    private final Text text;

    public CuckooAudit() {
        current = new Filter();
        thought = new Filter();
        history = new History();
        text = new Text();
    }

    public int tag(int key) throws IllegalArgumentException {
        checkKey(key);
        return Code.tagOf(current.codeOf(key));
    }

    public int body(int key) throws IllegalArgumentException {
        checkKey(key);
        return Code.bodyOf(current.codeOf(key));
    }

    public int bucket(int key, boolean other) throws IllegalArgumentException {
        checkKey(key);
        int entry = current.newEntry(key);
        return other ? current.otherOf(entry) : Entry.homeOf(entry);
    }

    public boolean found(int key) throws IllegalArgumentException {
        checkKey(key);
        return current.finds(key);
    }

    public int place(int key) throws IllegalArgumentException {
        checkKey(key);
        return current.placeOf(key);
    }

    public int present(int index) throws IndexOutOfBoundsException {
        checkPosition(within(index, 0, current.keyCount() - 1));
        return current.keyAt(index);
    }

    public int count() {
        return current.keyCount();
    }

    public int add(int key) throws IllegalArgumentException, IllegalStateException {
        checkKey(key);
        thought.copyFrom(current);
        return acceptIfPossible(thought.addKey(key));
    }

    public int addShortest(int key) throws IllegalArgumentException, IllegalStateException {
        checkKey(key);
        thought.copyFrom(current);
        return acceptIfPossible(thought.addKeyShortest(key));
    }

    public int delete(int key) throws IllegalArgumentException, IllegalStateException {
        checkKey(key);
        thought.copyFrom(current);
        return acceptIfPossible(thought.deleteKey(key));
    }

    public int grow() throws IllegalStateException {
        thought.copyFrom(current);
        return acceptIfPossible(thought.doubleBuckets());
    }

    public int rebuild(int bits, int slots, int length, int seed)
            throws IllegalArgumentException, IllegalStateException {
        checkArgument(within(bits, 1, MAX_BITS));
        checkArgument(within(slots, 1, MAX_SLOTS));
        checkArgument(within(length, 1, MAX_LENGTH));
        checkArgument(within(seed, 0, MAX_SEED));
        thought.copyFrom(current);
        boolean possible = thought.refill(bits, slots, length, seed);
        return acceptIfPossible(possible ? thought.stashSize() : NONE);
    }

    public int setLimit(int limit) throws IllegalArgumentException {
        checkArgument(within(limit, 0, MAX_LIMIT));
        thought.copyFrom(current);
        return accept(thought.changeLimit(limit));
    }

    public int setLength(int length) throws IllegalArgumentException {
        checkArgument(within(length, 1, MAX_LENGTH));
        thought.copyFrom(current);
        return accept(thought.changeLength(length));
    }

    public int clear() {
        thought.copyFrom(current);
        return accept(thought.forgetAll());
    }

    public int info(int what) throws IllegalArgumentException {
        checkArgument(within(what, 0, LAST_INFO));
        return current.number(what);
    }

    public int slot(int bucket, int slot, int what) throws IndexOutOfBoundsException, IllegalArgumentException {
        checkSlot(bucket, slot);
        checkArgument(within(what, 0, LAST_PART));
        return current.partOfSlot(bucket, slot, what);
    }

    public int stashed(int index, int what) throws IndexOutOfBoundsException, IllegalArgumentException {
        checkPosition(within(index, 0, current.stashSize() - 1));
        checkArgument(within(what, 0, LAST_PART));
        return current.partOfStash(index, what);
    }

    public int filled(int entries) throws IllegalArgumentException {
        checkArgument(within(entries, 0, MAX_SLOTS));
        return current.bucketsWith(entries);
    }

    public int walk(int key) throws IllegalArgumentException {
        checkKey(key);
        thought.copyFrom(current);
        return thought.insert(key);
    }

    public int walkStep(int key, int step, boolean tag) throws IllegalArgumentException {
        checkKey(key);
        thought.copyFrom(current);
        thought.insert(key);
        return tag ? thought.walked().tagAt(step) : thought.walked().placeAt(step);
    }

    public int leastMoves(int key) throws IllegalArgumentException {
        checkKey(key);
        thought.copyFrom(current);
        return thought.insertShortest(key);
    }

    public int roomFor(int from, int to) throws IllegalArgumentException {
        checkRange(from, to);
        thought.copyFrom(current);
        int added = 0;
        for (int key = from; key <= to; key++) {
            if (!thought.isPresent(key)) {
                if (thought.addKey(key) == NONE) {
                    return added;
                }
                added++;
            }
        }
        return added;
    }

    public int falseKeys(int from, int to) throws IllegalArgumentException {
        checkRange(from, to);
        return current.falseBetween(from, to);
    }

    public int falseKey(int index) {
        int position = 0;
        for (int key = 0; key < KEYS; key++) {
            if (current.isFalse(key)) {
                if (position == index) {
                    return key;
                }
                position++;
            }
        }
        return NONE;
    }

    public int blamed(int bucket, int slot) throws IndexOutOfBoundsException {
        checkSlot(bucket, slot);
        thought.copyFrom(current);
        thought.emptySlot(bucket, slot);
        int blamed = 0;
        for (int key = 0; key < KEYS; key++) {
            if (current.isFalse(key) && !thought.finds(key)) {
                blamed++;
            }
        }
        return blamed;
    }

    public int twins() {
        return current.twinPairs();
    }

    public int bestSeed(int seeds) throws IllegalArgumentException {
        checkArgument(within(seeds, 1, MAX_SEEDS_TRIED));
        thought.copyFrom(current);
        int best = NONE;
        int fewest = KEYS + 1;
        for (int seed = 0; seed < seeds; seed++) {
            if (thought.refillWithSeed(seed)) {
                int falseOnes = thought.falseBetween(0, KEYS - 1);
                if (falseOnes < fewest) {
                    fewest = falseOnes;
                    best = seed;
                }
            }
        }
        return best;
    }

    public int leastBits(int slots, int length) throws IllegalArgumentException {
        checkArgument(within(slots, 1, MAX_SLOTS));
        checkArgument(within(length, 1, MAX_LENGTH));
        thought.copyFrom(current);
        for (int bits = 1; bits <= MAX_BITS; bits++) {
            if (thought.refillWithBits(bits, slots, length)) {
                return bits;
            }
        }
        return NONE;
    }

    public boolean couldFit(int bits, int slots, int seed) throws IllegalArgumentException {
        checkArgument(within(bits, 1, MAX_BITS));
        checkArgument(within(slots, 1, MAX_SLOTS));
        checkArgument(within(seed, 0, MAX_SEED));
        thought.copyFrom(current);
        return thought.distribute(bits, slots, seed);
    }

    public int rateBits() {
        int absent = KEYS - current.keyCount();
        if (absent <= 0) {
            return 0;
        }
        return bitsOf((float) current.falseBetween(0, KEYS - 1) / (float) absent);
    }

    public int append(int value) throws IllegalArgumentException, IllegalStateException {
        checkArgument(within(value, 0, 127));
        if (text.size() >= MAX_TEXT) {
            throw new IllegalStateException("the text is full");
        }
        return text.put(value);
    }

    public int clearText() {
        return text.empty();
    }

    public int execute() {
        int error = text.errorPosition();
        if (error != NONE) {
            return SYNTAX_ERROR - error;
        }
        thought.copyFrom(current);
        int commands = 0;
        int sign = 0;
        int number = 0;
        for (int i = 0; i < text.size(); i++) {
            int value = text.byteAt(i);
            if (value == ';') {
                if (thought.perform(sign, number) == NONE) {
                    return COMMAND_FAILS - commands;
                }
                commands++;
            } else if (Text.isDigit(value)) {
                number = number * 10 + (value - '0');
            } else {
                sign = value;
                number = 0;
            }
        }
        return accept(commands);
    }

    public int undo() throws IllegalStateException {
        if (history.size() == 0) {
            throw new IllegalStateException("no state is saved");
        }
        return history.pop(current);
    }

    public long digest() {
        long h = 1960;
        for (int what = 0; what <= LAST_INFO; what++) {
            h = 31 * h + current.number(what);
        }
        for (int bucket = 0; bucket < current.bucketCount(); bucket++) {
            for (int slot = 0; slot < current.slotCount(); slot++) {
                for (int what = 0; what <= LAST_PART; what++) {
                    h = 31 * h + current.partOfSlot(bucket, slot, what);
                }
            }
        }
        for (int i = 0; i < current.stashSize(); i++) {
            for (int what = 0; what <= LAST_PART; what++) {
                h = 31 * h + current.partOfStash(i, what);
            }
        }
        h = 31 * h + current.keyCount();
        for (int i = 0; i < current.keyCount(); i++) {
            h = 31 * h + current.keyAt(i);
        }
        h = 31 * h + current.falseBetween(0, KEYS - 1);
        h = 31 * h + text.size();
        return 31 * h + history.size();
    }

    /** Ends an undoable change that may have failed in thought. */
    private int acceptIfPossible(int answer) {
        if (answer == NONE) {
            throw new IllegalStateException("not possible in this state");
        }
        return accept(answer);
    }

    /** Ends an undoable change that was made in thought: it becomes the state. */
    private int accept(int answer) {
        history.push(current);
        current.copyFrom(thought);
        return answer;
    }

    private static boolean within(int value, int least, int most) {
        return value >= least && value <= most;
    }

    private static void checkArgument(boolean good) {
        if (!good) {
            throw new IllegalArgumentException("an argument is out of range");
        }
    }

    private static void checkPosition(boolean good) {
        if (!good) {
            throw new IndexOutOfBoundsException("there is no such position");
        }
    }

    private static void checkKey(int key) {
        checkArgument(within(key, 0, KEYS - 1));
    }

    private static void checkRange(int from, int to) {
        checkArgument(from >= 0 && from <= to && to < KEYS);
    }

    private void checkSlot(int bucket, int slot) {
        checkPosition(within(bucket, 0, current.bucketCount() - 1));
        checkPosition(within(slot, 0, current.slotCount() - 1));
    }

    /**
     * The bits of a float that is 0, or from 2^-126 on and below 2. They are found by doubling, which is
     * exact, because LANGUAGE.md leaves out the library's own function.
     */
    private static int bitsOf(float value) {
        if (value <= 0) {
            return 0;
        }
        float scaled = value;
        int exponent = 127;
        while (scaled < 1 && exponent > 1) {
            scaled = scaled * 2;
            exponent--;
        }
        int fraction = (int) ((scaled - 1) * 8388608);
        return (exponent << 23) | fraction;
    }

    /** The codes of the keys. */
    private static final class Code {
        private static final int BODIES = 16384;

        static int of(int key, int seed) {
            long v = (key * 48271L + seed * 7919L + 12345L) % 1048576L;
            v = v ^ (v / 512L);
            v = (v * 7621L + 1L) % 1048576L;
            v = v ^ (v / 2048L);
            return (int) v;
        }

        static int tagOf(int code) {
            return code / BODIES;
        }

        static int bodyOf(int code) {
            return code % BODIES;
        }

        static int homeOf(int code, int bits) {
            return (code % BODIES) & ((1 << bits) - 1);
        }

        /** The other one of the two buckets of a key or an entry with this tag. */
        static int partner(int bucket, int tag, int bits) {
            int step = ((37 * tag + 11) % 64) | 1;
            return bucket ^ (step & ((1 << bits) - 1));
        }

        /** The fingerprint of a length: the bits of the body above those of the home. */
        static int printOf(int code, int bits, int length) {
            return ((code % BODIES) >> bits) & ((1 << length) - 1);
        }
    }

    /**
     * An entry in one number: tag, home, length and fingerprint. The home stands in place of the side,
     * which it tells: a step is odd, so the two buckets of an entry always differ.
     */
    private static final class Entry {
        static int of(int code, int bits, int length) {
            int home = Code.homeOf(code, bits);
            return pack(Code.tagOf(code), home, length, Code.printOf(code, bits, length));
        }

        static int tagOf(int entry) {
            return entry & 63;
        }

        static int homeOf(int entry) {
            return (entry >> 6) & 63;
        }

        static int lengthOf(int entry) {
            return (entry >> 12) & 15;
        }

        static int printOf(int entry) {
            return (entry >> 16) & 255;
        }

        /** The entry's length, if it matches a key of this code and has the same home; otherwise NONE. */
        static int lengthIfMatching(int entry, int code, int bits) {
            if (entry == EMPTY || tagOf(entry) != Code.tagOf(code) || homeOf(entry) != Code.homeOf(code, bits)) {
                return NONE;
            }
            int length = lengthOf(entry);
            return printOf(entry) == Code.printOf(code, bits, length) ? length : NONE;
        }

        /** The entry after doubling: its fingerprint gives its lowest bit to its home. */
        static int doubled(int entry, int oldBits) {
            int print = printOf(entry);
            int home = homeOf(entry) + ((print & 1) << oldBits);
            return pack(tagOf(entry), home, lengthOf(entry) - 1, print >> 1);
        }

        private static int pack(int tag, int home, int length, int print) {
            return tag | (home << 6) | (length << 12) | (print << 16);
        }
    }

    /** The steps of the last walk: the places, and the tags of the entries that were taken out there. */
    private static final class Walk {
        private final int[] places = new int[MAX_LIMIT];
        private final int[] tags = new int[MAX_LIMIT];
        private int steps;

        void restart() {
            steps = 0;
        }

        void note(int place, int tag) {
            if (steps >= 0 && steps < places.length && steps < tags.length) {
                places[steps] = place;
                tags[steps] = tag;
                steps++;
            }
        }

        int steps() {
            return steps;
        }

        int placeAt(int step) {
            return step >= 0 && step < steps && step < places.length ? places[step] : NONE;
        }

        int tagAt(int step) {
            return step >= 0 && step < steps && step < tags.length ? tags[step] : NONE;
        }
    }

    /** The buckets that a search has reached, in order, and the place of the entry that led to each. */
    private static final class Reach {
        private static final int NOT_REACHED = -2;

        private final int[] buckets = new int[MAX_BUCKETS];
        private final int[] places = new int[MAX_BUCKETS];
        private int size;

        void restart() {
            size = 0;
            for (int i = 0; i < places.length; i++) {
                places[i] = NOT_REACHED;
            }
        }

        /** Notes a bucket, if it is not reached yet; the place is NONE where no entry led to it. */
        void note(int bucket, int place) {
            if (bucket < 0 || bucket >= places.length || size < 0 || size >= buckets.length) {
                return;
            }
            if (places[bucket] == NOT_REACHED) {
                places[bucket] = place;
                buckets[size] = bucket;
                size++;
            }
        }

        int size() {
            return size;
        }

        int bucketAt(int index) {
            return index >= 0 && index < buckets.length ? buckets[index] : NONE;
        }

        int placeBefore(int bucket) {
            return bucket >= 0 && bucket < places.length ? places[bucket] : NONE;
        }
    }

    /** The present keys, in the order in which they were added. */
    private static final class KeyList {
        private final int[] keys = new int[MAX_PRESENT];
        private int size;

        void copyFrom(KeyList from) {
            for (int i = 0; i < keys.length && i < from.keys.length; i++) {
                keys[i] = from.keys[i];
            }
            size = from.size;
        }

        int size() {
            return size;
        }

        void empty() {
            size = 0;
        }

        boolean isFull() {
            return size >= keys.length;
        }

        int keyAt(int index) {
            return index >= 0 && index < size && index < keys.length ? keys[index] : NONE;
        }

        boolean has(int key) {
            return indexOf(key) != NONE;
        }

        void put(int key) {
            if (size >= 0 && size < keys.length) {
                keys[size] = key;
                size++;
            }
        }

        void remove(int key) {
            int index = indexOf(key);
            if (index == NONE) {
                return;
            }
            for (int i = index; i >= 0 && i + 1 < size && i + 1 < keys.length; i++) {
                keys[i] = keys[i + 1];
            }
            size--;
        }

        private int indexOf(int key) {
            for (int i = 0; i < size && i < keys.length; i++) {
                if (keys[i] == key) {
                    return i;
                }
            }
            return NONE;
        }
    }

    /**
     * A state: the filter with its numbers, and the present keys. A slot's place is 4 * bucket + slot, as
     * in the answers. What fails here may leave a change half made: the caller drops the state then.
     */
    private static final class Filter {
        private int bits = 2;
        private int slots = 2;
        private int length = 5;
        private int seed = 0;
        private int limit = 10;
        private final int[] cells = new int[MAX_BUCKETS * MAX_SLOTS];
        private final int[] stash = new int[MAX_STASH];
        private int stashSize;
        private final KeyList keys = new KeyList();
        // These two are left over from the last search; they do not belong to the state.
        private final Walk walked = new Walk();
        private final Reach reach = new Reach();

        Filter() {
            for (int i = 0; i < cells.length; i++) {
                cells[i] = EMPTY;
            }
        }

        void copyFrom(Filter from) {
            bits = from.bits;
            slots = from.slots;
            length = from.length;
            seed = from.seed;
            limit = from.limit;
            for (int i = 0; i < cells.length && i < from.cells.length; i++) {
                cells[i] = from.cells[i];
            }
            for (int i = 0; i < stash.length && i < from.stash.length; i++) {
                stash[i] = from.stash[i];
            }
            stashSize = from.stashSize;
            keys.copyFrom(from.keys);
        }

        int bucketCount() {
            return 1 << bits;
        }

        int slotCount() {
            return slots;
        }

        int stashSize() {
            return stashSize;
        }

        int keyCount() {
            return keys.size();
        }

        int keyAt(int index) {
            return keys.keyAt(index);
        }

        boolean isPresent(int key) {
            return keys.has(key);
        }

        Walk walked() {
            return walked;
        }

        int codeOf(int key) {
            return Code.of(key, seed);
        }

        int newEntry(int key) {
            return Entry.of(codeOf(key), bits, length);
        }

        int otherOf(int entry) {
            return Code.partner(Entry.homeOf(entry), Entry.tagOf(entry), bits);
        }

        int changeLimit(int newLimit) {
            int before = limit;
            limit = newLimit;
            return before;
        }

        int changeLength(int newLength) {
            int before = length;
            length = newLength;
            return before;
        }

        int forgetAll() {
            int before = keys.size();
            emptyAll();
            keys.empty();
            return before;
        }

        /** What info() tells. */
        int number(int what) {
            switch (what) {
                case 0: return bucketCount();
                case 1: return slots;
                case 2: return length;
                case 3: return seed;
                case 4: return limit;
                case 5: return entriesInSlots();
                case 6: return stashSize;
                case 7: return smallestLength();
                case 8: return canDouble() ? 1 : 0;
                default: return NONE;
            }
        }

        /** What slot() tells. */
        int partOfSlot(int bucket, int slot, int what) {
            int entry = cellAt(placeIn(bucket, slot));
            if (entry == EMPTY) {
                return NONE;
            }
            if (what == LAST_PART) {
                return Entry.homeOf(entry) == bucket ? 0 : 1;
            }
            return partOf(entry, what);
        }

        /** What stashed() tells. */
        int partOfStash(int index, int what) {
            int entry = stashAt(index);
            return what == LAST_PART ? Entry.homeOf(entry) : partOf(entry, what);
        }

        int bucketsWith(int entries) {
            int buckets = 0;
            for (int bucket = 0; bucket < bucketCount(); bucket++) {
                if (entriesIn(bucket) == entries) {
                    buckets++;
                }
            }
            return buckets;
        }

        void emptySlot(int bucket, int slot) {
            setCell(placeIn(bucket, slot), EMPTY);
        }

        boolean finds(int key) {
            return placeOf(key) != NONE;
        }

        boolean isFalse(int key) {
            return finds(key) && !keys.has(key);
        }

        int falseBetween(int from, int to) {
            int falseOnes = 0;
            for (int key = from; key <= to && key < KEYS; key++) {
                if (isFalse(key)) {
                    falseOnes++;
                }
            }
            return falseOnes;
        }

        /** The place of the entry by which a key would be deleted; NONE if the key is not found. */
        int placeOf(int key) {
            int code = codeOf(key);
            int home = Code.homeOf(code, bits);
            int other = Code.partner(home, Code.tagOf(code), bits);
            int best = NONE;
            int longest = NONE;
            for (int i = 0; i < 2 * slots; i++) {
                int place = i < slots ? placeIn(home, i) : placeIn(other, i - slots);
                int matching = Entry.lengthIfMatching(cellAt(place), code, bits);
                if (matching > longest) {
                    longest = matching;
                    best = place;
                }
            }
            for (int i = 0; i < stashSize; i++) {
                int matching = Entry.lengthIfMatching(stashAt(i), code, bits);
                if (matching > longest) {
                    longest = matching;
                    best = STASH_PLACE + i;
                }
            }
            return best;
        }

        /** The pairs of present keys whose new entries would be the same. */
        int twinPairs() {
            int pairs = 0;
            for (int i = 0; i < keys.size(); i++) {
                int entry = newEntry(keys.keyAt(i));
                for (int j = 0; j < i; j++) {
                    if (newEntry(keys.keyAt(j)) == entry) {
                        pairs++;
                    }
                }
            }
            return pairs;
        }

        /** Adds a key like add(); NONE if that fails. */
        int addKey(int key) {
            if (keys.has(key) || keys.isFull()) {
                return NONE;
            }
            int answer = insert(key);
            if (answer != NONE) {
                keys.put(key);
            }
            return answer;
        }

        /** Adds a key like addShortest(); NONE if that fails. */
        int addKeyShortest(int key) {
            if (keys.has(key) || keys.isFull()) {
                return NONE;
            }
            int moves = insertShortest(key);
            if (moves != NONE) {
                keys.put(key);
            }
            return moves;
        }

        /** Deletes a key like delete(); NONE if it is not present. */
        int deleteKey(int key) {
            if (!keys.has(key)) {
                return NONE;
            }
            removeEntry(placeOf(key));
            keys.remove(key);
            return leaveStash();
        }

        /** Doubles like grow(); NONE if that is not possible. */
        int doubleBuckets() {
            if (!canDouble()) {
                return NONE;
            }
            int oldBits = bits;
            int oldCount = bucketCount();
            bits = oldBits + 1;
            for (int bucket = 0; bucket < oldCount; bucket++) {
                for (int slot = 0; slot < slots; slot++) {
                    doubleSlot(bucket, slot, oldBits);
                }
            }
            for (int i = 0; i < stashSize && i < stash.length; i++) {
                stash[i] = Entry.doubled(stash[i], oldBits);
            }
            leaveStash();
            return bucketCount();
        }

        /** Executes a command of a text; NONE if it fails. */
        int perform(int sign, int key) {
            if (sign == '+') {
                return addKey(key);
            }
            return sign == '-' ? deleteKey(key) : doubleBuckets();
        }

        /** Rebuilds the filter with other numbers; tells whether that is possible. */
        boolean refill(int newBits, int newSlots, int newLength, int newSeed) {
            bits = newBits;
            slots = newSlots;
            length = newLength;
            seed = newSeed;
            emptyAll();
            for (int i = 0; i < keys.size(); i++) {
                if (insert(keys.keyAt(i)) == NONE) {
                    return false;
                }
            }
            return true;
        }

        boolean refillWithSeed(int newSeed) {
            return refill(bits, slots, length, newSeed);
        }

        boolean refillWithBits(int newBits, int newSlots, int newLength) {
            return refill(newBits, newSlots, newLength, seed);
        }

        /**
         * Rebuilds the filter without walks and stash. If no chain of moves makes room for one more entry,
         * no other distribution of the entries does it either.
         */
        boolean distribute(int newBits, int newSlots, int newSeed) {
            bits = newBits;
            slots = newSlots;
            seed = newSeed;
            emptyAll();
            for (int i = 0; i < keys.size(); i++) {
                if (insertShortest(keys.keyAt(i)) == NONE) {
                    return false;
                }
            }
            return true;
        }

        /** Puts in the entry of a key as adding does; the answer is that of walk(). */
        int insert(int key) {
            walked.restart();
            int entry = newEntry(key);
            if (settle(entry)) {
                return 0;
            }
            int steps = wander(entry);
            if (steps != NONE) {
                return steps;
            }
            if (stashSize < 0 || stashSize >= stash.length) {
                return NONE;
            }
            stash[stashSize] = entry;
            stashSize++;
            return TO_STASH;
        }

        /** Puts in the entry of a key with as few moves as possible, and tells their number, or NONE. */
        int insertShortest(int key) {
            int entry = newEntry(key);
            int end = endOfChain(Entry.homeOf(entry), otherOf(entry));
            return end == NONE ? NONE : moveAlong(end, entry);
        }

        /** Puts an entry into its home or, if that is full, into its other bucket; tells whether it went. */
        private boolean settle(int entry) {
            int free = freePlace(Entry.homeOf(entry));
            if (free == NONE) {
                free = freePlace(otherOf(entry));
            }
            if (free == NONE) {
                return false;
            }
            setCell(free, entry);
            return true;
        }

        /** Makes a walk and tells the number of its steps; if it does not end well, all is put back. */
        private int wander(int entry) {
            int held = entry;
            int bucket = Entry.homeOf(entry);
            int slot = 0;
            for (int i = 0; i < limit && i < MAX_LIMIT; i++) {
                int place = placeIn(bucket, slot);
                int taken = cellAt(place);
                setCell(place, held);
                walked.note(place, Entry.tagOf(taken));
                held = taken;
                bucket = Code.partner(bucket, Entry.tagOf(held), bits);
                int free = freePlace(bucket);
                if (free != NONE) {
                    setCell(free, held);
                    return i + 1;
                }
                slot = slot + 1 < slots ? slot + 1 : 0;
            }
            walkBack(held);
            return NONE;
        }

        private void walkBack(int lastHeld) {
            int held = lastHeld;
            for (int i = walked.steps() - 1; i >= 0; i--) {
                int place = walked.placeAt(i);
                int before = cellAt(place);
                setCell(place, held);
                held = before;
            }
        }

        /** The first bucket with an empty slot that is reached from two buckets by moves; or NONE. */
        private int endOfChain(int home, int other) {
            reach.restart();
            reach.note(home, NONE);
            reach.note(other, NONE);
            for (int i = 0; i < MAX_BUCKETS && i < reach.size(); i++) {
                int bucket = reach.bucketAt(i);
                if (freePlace(bucket) != NONE) {
                    return bucket;
                }
                for (int slot = 0; slot < slots; slot++) {
                    int place = placeIn(bucket, slot);
                    reach.note(Code.partner(bucket, Entry.tagOf(cellAt(place)), bits), place);
                }
            }
            return NONE;
        }

        /** Makes the moves of the chain that ends in a bucket, puts in the new entry, tells the moves. */
        private int moveAlong(int end, int entry) {
            int free = freePlace(end);
            int moves = 0;
            while (moves < MAX_BUCKETS) {
                int from = reach.placeBefore(free / MAX_SLOTS);
                if (from < 0) {
                    break;
                }
                setCell(free, cellAt(from));
                free = from;
                moves++;
            }
            setCell(free, entry);
            return moves;
        }

        private void removeEntry(int place) {
            if (place < STASH_PLACE) {
                setCell(place, EMPTY);
                return;
            }
            for (int i = place - STASH_PLACE; i >= 0 && i + 1 < stashSize && i + 1 < stash.length; i++) {
                stash[i] = stash[i + 1];
            }
            stashSize--;
        }

        /** Lets entries leave the stash for empty slots, and tells how many did. */
        private int leaveStash() {
            int kept = 0;
            int left = 0;
            for (int i = 0; i < stashSize && i < stash.length; i++) {
                int entry = stash[i];
                if (settle(entry)) {
                    left++;
                } else if (kept <= i) {
                    stash[kept] = entry;
                    kept++;
                }
            }
            stashSize = kept;
            return left;
        }

        private void doubleSlot(int bucket, int slot, int oldBits) {
            int entry = cellAt(placeIn(bucket, slot));
            if (entry == EMPTY) {
                return;
            }
            emptySlot(bucket, slot);
            int doubled = Entry.doubled(entry, oldBits);
            boolean atHome = Entry.homeOf(entry) == bucket;
            setCell(placeIn(atHome ? Entry.homeOf(doubled) : otherOf(doubled), slot), doubled);
        }

        private boolean canDouble() {
            return bits < MAX_BITS && smallestLength() != 0;
        }

        private int smallestLength() {
            int smallest = NONE;
            for (int i = 0; i < cells.length; i++) {
                smallest = smallerLength(smallest, cells[i]);
            }
            for (int i = 0; i < stashSize; i++) {
                smallest = smallerLength(smallest, stashAt(i));
            }
            return smallest;
        }

        private static int smallerLength(int smallest, int entry) {
            if (entry == EMPTY) {
                return smallest;
            }
            int length = Entry.lengthOf(entry);
            return smallest == NONE || length < smallest ? length : smallest;
        }

        private int entriesInSlots() {
            int entries = 0;
            for (int bucket = 0; bucket < bucketCount(); bucket++) {
                entries = entries + entriesIn(bucket);
            }
            return entries;
        }

        private int entriesIn(int bucket) {
            int entries = 0;
            for (int slot = 0; slot < slots; slot++) {
                if (cellAt(placeIn(bucket, slot)) != EMPTY) {
                    entries++;
                }
            }
            return entries;
        }

        private void emptyAll() {
            for (int i = 0; i < cells.length; i++) {
                cells[i] = EMPTY;
            }
            stashSize = 0;
        }

        private int freePlace(int bucket) {
            for (int slot = 0; slot < slots; slot++) {
                int place = placeIn(bucket, slot);
                if (cellAt(place) == EMPTY) {
                    return place;
                }
            }
            return NONE;
        }

        private int stashAt(int index) {
            return index >= 0 && index < stashSize && index < stash.length ? stash[index] : EMPTY;
        }

        private int cellAt(int place) {
            return place >= 0 && place < cells.length ? cells[place] : EMPTY;
        }

        private void setCell(int place, int entry) {
            if (place >= 0 && place < cells.length) {
                cells[place] = entry;
            }
        }

        private static int placeIn(int bucket, int slot) {
            return bucket * MAX_SLOTS + slot;
        }

        private static int partOf(int entry, int what) {
            switch (what) {
                case 0: return Entry.tagOf(entry);
                case 1: return Entry.lengthOf(entry);
                case 2: return Entry.printOf(entry);
                default: return NONE;
            }
        }
    }

    /** The saved states, the latest one last. */
    private static final class History {
        private final Filter[] states = new Filter[MAX_SAVED];
        private int size;

        History() {
            for (int i = 0; i < states.length; i++) {
                states[i] = new Filter();
            }
        }

        int size() {
            return size;
        }

        void push(Filter state) {
            if (size >= MAX_SAVED) {
                dropOldest();
            }
            Filter saved = stateAt(size);
            if (saved != null) {
                saved.copyFrom(state);
                size++;
            }
        }

        /** Restores the latest state, and tells how many are still saved. */
        int pop(Filter state) {
            Filter saved = stateAt(size - 1);
            if (saved != null) {
                state.copyFrom(saved);
                size--;
            }
            return size;
        }

        private void dropOldest() {
            Filter oldest = stateAt(0);
            for (int i = 0; i + 1 < states.length; i++) {
                states[i] = states[i + 1];
            }
            if (states.length > 0) {
                states[states.length - 1] = oldest;
            }
            size--;
        }

        private Filter stateAt(int index) {
            return index >= 0 && index < states.length ? states[index] : null;
        }
    }

    /** The text, and its reading as commands. */
    private static final class Text {
        // What may stand next in a command; each digit of a number leads from one number to the next.
        private static final int START = 0;
        private static final int FIRST_DIGIT = 1;
        private static final int THIRD_DIGIT = 3;
        private static final int SEMICOLON = 4;

        private final int[] bytes = new int[MAX_TEXT];
        private int size;

        static boolean isDigit(int value) {
            return value >= '0' && value <= '9';
        }

        int size() {
            return size;
        }

        int byteAt(int index) {
            return index >= 0 && index < size && index < bytes.length ? bytes[index] : NONE;
        }

        int put(int value) {
            if (size >= 0 && size < bytes.length) {
                bytes[size] = value;
                size++;
            }
            return size;
        }

        int empty() {
            int before = size;
            size = 0;
            return before;
        }

        /** The syntax error position; NONE if the text is a sequence of commands. */
        int errorPosition() {
            int state = START;
            for (int i = 0; i < size; i++) {
                state = stateAfter(state, byteAt(i));
                if (state == NONE) {
                    return i;
                }
            }
            return state == START ? NONE : size;
        }

        private static int stateAfter(int state, int value) {
            if (state == START) {
                if (value == '*') {
                    return SEMICOLON;
                }
                return value == '+' || value == '-' ? FIRST_DIGIT : NONE;
            }
            if (value == ';' && state > FIRST_DIGIT) {
                return START;
            }
            return isDigit(value) && state <= THIRD_DIGIT ? state + 1 : NONE;
        }
    }
}
