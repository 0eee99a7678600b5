import java.util.ArrayDeque;
import java.util.ArrayList;
import java.util.Arrays;
import java.util.HashMap;
import java.util.List;
import java.util.Map;
import java.util.regex.Matcher;
import java.util.regex.Pattern;

/**
 * The document once more, written apart from the program, as slow and as plainly as can be, with the Java
 * library: entries are objects that know their side, and nothing is done in place that may still fail.
 */
public final class Model {
    static final int NONE = -1;

    static final class Entry {
        final int tag;
        final int home;
        final int side;
        final String bits; // the fingerprint's bits, bit 0 first

        Entry(int tag, int home, int side, String bits) {
            this.tag = tag;
            this.home = home;
            this.side = side;
            this.bits = bits;
        }

        Entry onSide(int newSide) {
            return new Entry(tag, home, newSide, bits);
        }

        int print() {
            int value = 0;
            for (int i = 0; i < bits.length(); i++) {
                value += bits.charAt(i) == '1' ? 1 << i : 0;
            }
            return value;
        }
    }

    static final class State {
        int b = 2;
        int s = 2;
        int f = 5;
        int seed = 0;
        int limit = 10;
        Entry[][] table = new Entry[4][2];
        List<Entry> stash = new ArrayList<>();
        List<Integer> keys = new ArrayList<>();

        State copy() {
            State c = new State();
            c.b = b;
            c.s = s;
            c.f = f;
            c.seed = seed;
            c.limit = limit;
            c.table = copyOf(table);
            c.stash = new ArrayList<>(stash);
            c.keys = new ArrayList<>(keys);
            return c;
        }
    }

    private State now = new State();
    private final ArrayDeque<State> saved = new ArrayDeque<>();
    private String text = "";

    static Entry[][] copyOf(Entry[][] table) {
        Entry[][] copy = new Entry[table.length][];
        for (int i = 0; i < table.length; i++) {
            copy[i] = table[i].clone();
        }
        return copy;
    }

    // ---- codes

    static int code(int key, int seed) {
        long v = Math.floorMod(key * 48271L + seed * 7919L + 12345L, 1L << 20);
        v ^= v >> 9;
        v = Math.floorMod(v * 7621L + 1L, 1L << 20);
        v ^= v >> 11;
        return (int) v;
    }

    static int tag(State st, int key) {
        return code(key, st.seed) >> 14;
    }

    static int body(State st, int key) {
        return code(key, st.seed) & 0x3fff;
    }

    static int step(int tag, int b) {
        int t = (37 * tag + 11) % 64;
        if (t % 2 == 0) {
            t++;
        }
        return t % (1 << b);
    }

    static int home(State st, int key) {
        return body(st, key) % (1 << st.b);
    }

    static int other(State st, int key) {
        return home(st, key) ^ step(tag(st, key), st.b);
    }

    static String bits(State st, int key, int length) {
        StringBuilder bits = new StringBuilder();
        for (int i = st.b; i < st.b + length; i++) {
            bits.append((body(st, key) >> i) & 1);
        }
        return bits.toString();
    }

    static boolean matches(State st, Entry e, int key) {
        return e != null && e.tag == tag(st, key) && e.bits.equals(bits(st, key, e.bits.length()));
    }

    // ---- being found

    /** The places of all entries by which a key is found, in the order of deleting. */
    static List<Integer> places(State st, int key) {
        List<Integer> places = new ArrayList<>();
        int[] two = {home(st, key), other(st, key)};
        for (int side = 0; side < 2; side++) {
            for (int slot = 0; slot < st.s; slot++) {
                Entry e = st.table[two[side]][slot];
                if (matches(st, e, key) && e.side == side) {
                    places.add(4 * two[side] + slot);
                }
            }
        }
        for (int i = 0; i < st.stash.size(); i++) {
            if (matches(st, st.stash.get(i), key) && st.stash.get(i).home == two[0]) {
                places.add(1000 + i);
            }
        }
        return places;
    }

    static Entry entryAt(State st, int place) {
        return place >= 1000 ? st.stash.get(place - 1000) : st.table[place / 4][place % 4];
    }

    static int place(State st, int key) {
        List<Integer> places = places(st, key);
        for (int length = 8; length >= 0; length--) {
            for (int place : places) {
                if (entryAt(st, place).bits.length() == length) {
                    return place;
                }
            }
        }
        return NONE;
    }

    static List<Integer> falseKeys(State st) {
        List<Integer> keys = new ArrayList<>();
        for (int key = 0; key < 1000; key++) {
            if (!places(st, key).isEmpty() && !st.keys.contains(key)) {
                keys.add(key);
            }
        }
        return keys;
    }

    // ---- adding

    static int emptySlot(Entry[][] table, int bucket) {
        return Arrays.asList(table[bucket]).indexOf(null);
    }

    /** What the steps of a walk take out, as pairs of a place and a tag; the table is that behind it. */
    static final class Walk {
        final List<int[]> steps = new ArrayList<>();
        Entry[][] table;
        boolean endsWell;
    }

    static Walk walk(State st, int key) {
        Walk w = new Walk();
        w.table = copyOf(st.table);
        Entry held = new Entry(tag(st, key), home(st, key), 0, bits(st, key, st.f));
        int bucket = held.home;
        if (emptySlot(w.table, bucket) >= 0 || emptySlot(w.table, other(st, key)) >= 0) {
            return w;
        }
        for (int i = 0; i < st.limit && !w.endsWell; i++) {
            Entry out = w.table[bucket][i % st.s];
            w.table[bucket][i % st.s] = held.onSide(bucket == held.home ? 0 : 1);
            w.steps.add(new int[] {4 * bucket + i % st.s, out.tag});
            held = out;
            bucket ^= step(held.tag, st.b);
            int empty = emptySlot(w.table, bucket);
            if (empty >= 0) {
                w.table[bucket][empty] = held.onSide(bucket == held.home ? 0 : 1);
                w.endsWell = true;
            }
        }
        return w;
    }

    /** Puts an entry into its home or its other bucket; tells whether there was room. */
    static boolean putDirectly(State st, Entry e) {
        int[] two = {e.home, e.home ^ step(e.tag, st.b)};
        for (int side = 0; side < 2; side++) {
            int empty = emptySlot(st.table, two[side]);
            if (empty >= 0) {
                st.table[two[side]][empty] = e.onSide(side);
                return true;
            }
        }
        return false;
    }

    /** Puts in the entry of a key; NONE if that fails. */
    static int put(State st, int key) {
        Entry e = new Entry(tag(st, key), home(st, key), 0, bits(st, key, st.f));
        Walk w = walk(st, key);
        if (putDirectly(st, e)) {
            return 0;
        }
        if (w.endsWell) {
            st.table = w.table;
            return w.steps.size();
        }
        if (st.stash.size() < 3) {
            st.stash.add(e);
            return 100;
        }
        return NONE;
    }

    static int addIn(State st, int key) {
        if (st.keys.contains(key) || st.keys.size() >= 120) {
            return NONE;
        }
        int answer = put(st, key);
        if (answer != NONE) {
            st.keys.add(key);
        }
        return answer;
    }

    /** The chain of places from the last reached bucket's empty slot back; null if there is none. */
    static List<Integer> chain(State st, int key) {
        List<Integer> reached = new ArrayList<>(List.of(home(st, key), other(st, key)));
        Map<Integer, Integer> by = new HashMap<>();
        for (int i = 0; i < reached.size(); i++) {
            int bucket = reached.get(i);
            if (emptySlot(st.table, bucket) >= 0) {
                continue;
            }
            for (int slot = 0; slot < st.s; slot++) {
                int next = bucket ^ step(st.table[bucket][slot].tag, st.b);
                if (!reached.contains(next)) {
                    reached.add(next);
                    by.put(next, 4 * bucket + slot);
                }
            }
        }
        for (int bucket : reached) {
            int empty = emptySlot(st.table, bucket);
            if (empty >= 0) {
                List<Integer> places = new ArrayList<>(List.of(4 * bucket + empty));
                for (int at = bucket; by.containsKey(at); at = by.get(at) / 4) {
                    places.add(by.get(at));
                }
                return places;
            }
        }
        return null;
    }

    static int putShortest(State st, int key) {
        List<Integer> places = chain(st, key);
        if (places == null) {
            return NONE;
        }
        for (int i = 0; i < places.size(); i++) {
            int bucket = places.get(i) / 4;
            Entry e;
            if (i + 1 < places.size()) {
                e = entryAt(st, places.get(i + 1));
                e = e.onSide(1 - e.side);
            } else {
                int side = bucket == home(st, key) ? 0 : 1;
                e = new Entry(tag(st, key), home(st, key), side, bits(st, key, st.f));
            }
            st.table[bucket][places.get(i) % 4] = e;
        }
        return places.size() - 1;
    }

    // ---- deleting, doubling, rebuilding

    static int leaveStash(State st) {
        int before = st.stash.size();
        List<Entry> staying = new ArrayList<>();
        for (Entry e : st.stash) {
            if (!putDirectly(st, e)) {
                staying.add(e);
            }
        }
        st.stash = staying;
        return before - staying.size();
    }

    static int deleteIn(State st, int key) {
        if (!st.keys.contains(key)) {
            return NONE;
        }
        int place = place(st, key);
        if (place >= 1000) {
            st.stash.remove(place - 1000);
        } else {
            st.table[place / 4][place % 4] = null;
        }
        st.keys.remove(Integer.valueOf(key));
        return leaveStash(st);
    }

    static List<Entry> entries(State st) {
        List<Entry> all = new ArrayList<>();
        for (Entry[] bucket : st.table) {
            for (Entry e : bucket) {
                if (e != null) {
                    all.add(e);
                }
            }
        }
        all.addAll(st.stash);
        return all;
    }

    static boolean canGrow(State st) {
        return st.b < 6 && entries(st).stream().noneMatch(e -> e.bits.isEmpty());
    }

    static Entry grown(Entry e, int oldB) {
        int c = e.bits.charAt(0) - '0';
        return new Entry(e.tag, e.home + c * (1 << oldB), e.side, e.bits.substring(1));
    }

    static int growIn(State st) {
        if (!canGrow(st)) {
            return NONE;
        }
        Entry[][] wide = new Entry[2 << st.b][st.s];
        for (Entry[] bucket : st.table) {
            for (int slot = 0; slot < st.s; slot++) {
                if (bucket[slot] != null) {
                    Entry e = grown(bucket[slot], st.b);
                    int to = e.side == 0 ? e.home : e.home ^ step(e.tag, st.b + 1);
                    if (wide[to][slot] != null) {
                        throw new AssertionError("two entries in one slot");
                    }
                    wide[to][slot] = e;
                }
            }
        }
        st.stash.replaceAll(e -> grown(e, st.b));
        st.table = wide;
        st.b++;
        leaveStash(st);
        return 1 << st.b;
    }

    /** A rebuilt filter; null if rebuilding is not possible. */
    static State rebuilt(State from, int b, int s, int f, int seed) {
        State st = from.copy();
        st.b = b;
        st.s = s;
        st.f = f;
        st.seed = seed;
        st.table = new Entry[1 << b][s];
        st.stash = new ArrayList<>();
        for (int key : st.keys) {
            if (put(st, key) == NONE) {
                return null;
            }
        }
        return st;
    }

    // ---- the face

    private static void key(int key) {
        argument(key >= 0 && key <= 999);
    }

    private static void argument(boolean good) {
        if (!good) {
            throw new IllegalArgumentException();
        }
    }

    private static void position(boolean good) {
        if (!good) {
            throw new IndexOutOfBoundsException();
        }
    }

    private static void range(int from, int to) {
        argument(0 <= from && from <= to && to <= 999);
    }

    private int accept(State next, int answer) {
        if (next == null || answer == NONE) {
            throw new IllegalStateException();
        }
        saved.addLast(now);
        if (saved.size() > 4) {
            saved.removeFirst();
        }
        now = next;
        return answer;
    }

    public int tag(int key) {
        key(key);
        return tag(now, key);
    }

    public int body(int key) {
        key(key);
        return body(now, key);
    }

    public int bucket(int key, boolean other) {
        key(key);
        return other ? other(now, key) : home(now, key);
    }

    public boolean found(int key) {
        key(key);
        return !places(now, key).isEmpty();
    }

    public int place(int key) {
        key(key);
        return place(now, key);
    }

    public int present(int index) {
        position(index >= 0 && index < now.keys.size());
        return now.keys.get(index);
    }

    public int count() {
        return now.keys.size();
    }

    public int add(int key) {
        key(key);
        State next = now.copy();
        return accept(next, addIn(next, key));
    }

    public int addShortest(int key) {
        key(key);
        State next = now.copy();
        if (next.keys.contains(key) || next.keys.size() >= 120) {
            throw new IllegalStateException();
        }
        next.keys.add(key);
        return accept(next, putShortest(next, key));
    }

    public int delete(int key) {
        key(key);
        State next = now.copy();
        return accept(next, deleteIn(next, key));
    }

    public int grow() {
        State next = now.copy();
        return accept(next, growIn(next));
    }

    public int rebuild(int bits, int slots, int length, int seed) {
        argument(bits >= 1 && bits <= 6 && slots >= 1 && slots <= 4);
        argument(length >= 1 && length <= 8 && seed >= 0 && seed <= 99);
        State next = rebuilt(now, bits, slots, length, seed);
        return accept(next, next == null ? NONE : next.stash.size());
    }

    public int setLimit(int limit) {
        argument(limit >= 0 && limit <= 50);
        State next = now.copy();
        next.limit = limit;
        return accept(next, now.limit);
    }

    public int setLength(int length) {
        argument(length >= 1 && length <= 8);
        State next = now.copy();
        next.f = length;
        return accept(next, now.f);
    }

    public int clear() {
        State next = now.copy();
        next.table = new Entry[1 << now.b][now.s];
        next.stash.clear();
        next.keys.clear();
        return accept(next, now.keys.size());
    }

    public int info(int what) {
        switch (what) {
            case 0: return now.table.length;
            case 1: return now.s;
            case 2: return now.f;
            case 3: return now.seed;
            case 4: return now.limit;
            case 5: return entries(now).size() - now.stash.size();
            case 6: return now.stash.size();
            case 7: return entries(now).stream().mapToInt(e -> e.bits.length()).min().orElse(NONE);
            case 8: return canGrow(now) ? 1 : 0;
            default: throw new IllegalArgumentException();
        }
    }

    public int slot(int bucket, int slot, int what) {
        position(bucket >= 0 && bucket < now.table.length && slot >= 0 && slot < now.s);
        argument(what >= 0 && what <= 3);
        Entry e = now.table[bucket][slot];
        return e == null ? NONE : new int[] {e.tag, e.bits.length(), e.print(), e.side}[what];
    }

    public int stashed(int index, int what) {
        position(index >= 0 && index < now.stash.size());
        argument(what >= 0 && what <= 3);
        Entry e = now.stash.get(index);
        return new int[] {e.tag, e.bits.length(), e.print(), e.home}[what];
    }

    public int filled(int entries) {
        argument(entries >= 0 && entries <= 4);
        int buckets = 0;
        for (Entry[] bucket : now.table) {
            buckets += Arrays.stream(bucket).filter(e -> e != null).count() == entries ? 1 : 0;
        }
        return buckets;
    }

    public int walk(int key) {
        key(key);
        return put(now.copy(), key);
    }

    public int walkStep(int key, int step, boolean tag) {
        key(key);
        List<int[]> steps = walk(now, key).steps;
        return step < 0 || step >= steps.size() ? NONE : steps.get(step)[tag ? 1 : 0];
    }

    /** The distance of each bucket from one with an empty slot, by relaxing until nothing changes. */
    public int leastMoves(int key) {
        key(key);
        int far = 1000;
        int[] moves = new int[now.table.length];
        for (int bucket = 0; bucket < moves.length; bucket++) {
            moves[bucket] = emptySlot(now.table, bucket) >= 0 ? 0 : far;
        }
        for (int round = 0; round < moves.length; round++) {
            for (int bucket = 0; bucket < moves.length; bucket++) {
                for (Entry e : now.table[bucket]) {
                    if (e != null) {
                        int there = moves[bucket ^ step(e.tag, now.b)];
                        moves[bucket] = Math.min(moves[bucket], there + 1);
                    }
                }
            }
        }
        int least = Math.min(moves[home(now, key)], moves[other(now, key)]);
        return least >= far ? NONE : least;
    }

    public int roomFor(int from, int to) {
        range(from, to);
        State st = now.copy();
        for (int key = from; key <= to; key++) {
            if (!st.keys.contains(key) && addIn(st, key) == NONE) {
                break;
            }
        }
        return st.keys.size() - now.keys.size();
    }

    public int falseKeys(int from, int to) {
        range(from, to);
        return (int) falseKeys(now).stream().filter(key -> key >= from && key <= to).count();
    }

    public int falseKey(int index) {
        List<Integer> keys = falseKeys(now);
        return index < 0 || index >= keys.size() ? NONE : keys.get(index);
    }

    public int blamed(int bucket, int slot) {
        position(bucket >= 0 && bucket < now.table.length && slot >= 0 && slot < now.s);
        int blamed = 0;
        for (int key : falseKeys(now)) {
            blamed += places(now, key).equals(List.of(4 * bucket + slot)) ? 1 : 0;
        }
        return blamed;
    }

    public int twins() {
        int twice = 0;
        for (int x : now.keys) {
            for (int y : now.keys) {
                boolean same = tag(now, x) == tag(now, y) && home(now, x) == home(now, y)
                        && bits(now, x, now.f).equals(bits(now, y, now.f));
                twice += x != y && same ? 1 : 0;
            }
        }
        return twice / 2;
    }

    public int bestSeed(int seeds) {
        argument(seeds >= 1 && seeds <= 20);
        int best = NONE;
        int fewest = 0;
        for (int seed = seeds - 1; seed >= 0; seed--) {
            State st = rebuilt(now, now.b, now.s, now.f, seed);
            if (st != null && (best == NONE || falseKeys(st).size() <= fewest)) {
                best = seed;
                fewest = falseKeys(st).size();
            }
        }
        return best;
    }

    public int leastBits(int slots, int length) {
        argument(slots >= 1 && slots <= 4 && length >= 1 && length <= 8);
        int least = NONE;
        for (int b = 6; b >= 1; b--) {
            least = rebuilt(now, b, slots, length, now.seed) != null ? b : least;
        }
        return least;
    }

    /** A matching of keys and slots, made larger key by key. */
    public boolean couldFit(int bits, int slots, int seed) {
        argument(bits >= 1 && bits <= 6 && slots >= 1 && slots <= 4 && seed >= 0 && seed <= 99);
        State st = now.copy();
        st.b = bits;
        st.seed = seed;
        int[] keyOf = new int[(1 << bits) * slots];
        Arrays.fill(keyOf, NONE);
        for (int key : st.keys) {
            if (!match(st, slots, key, keyOf, new boolean[keyOf.length])) {
                return false;
            }
        }
        return true;
    }

    private static boolean match(State st, int slots, int key, int[] keyOf, boolean[] tried) {
        for (int bucket : new int[] {home(st, key), other(st, key)}) {
            for (int i = bucket * slots; i < (bucket + 1) * slots; i++) {
                if (!tried[i]) {
                    tried[i] = true;
                    if (keyOf[i] == NONE || match(st, slots, keyOf[i], keyOf, tried)) {
                        keyOf[i] = key;
                        return true;
                    }
                }
            }
        }
        return false;
    }

    public int rateBits() {
        return Float.floatToIntBits((float) falseKeys(now).size() / (float) (1000 - now.keys.size()));
    }

    public int append(int value) {
        argument(value >= 0 && value <= 127);
        if (text.length() == 100) {
            throw new IllegalStateException();
        }
        text += (char) value;
        return text.length();
    }

    public int clearText() {
        int before = text.length();
        text = "";
        return before;
    }

    private static final Pattern COMMAND = Pattern.compile("([+-])([0-9]{1,3});|(\\*);");
    private static final Pattern COMMANDS = Pattern.compile("([+-][0-9]{1,3};|\\*;)*");

    /** Whether a text is the beginning of some sequence of commands. */
    private static boolean mayGoOn(String text) {
        for (String end : new String[] {"", ";", "0;"}) {
            if (COMMANDS.matcher(text + end).matches()) {
                return true;
            }
        }
        return false;
    }

    public int execute() {
        for (int length = 1; length <= text.length(); length++) {
            if (!mayGoOn(text.substring(0, length))) {
                return -10 - (length - 1);
            }
        }
        if (!COMMANDS.matcher(text).matches()) {
            return -10 - text.length();
        }
        State next = now.copy();
        int done = 0;
        Matcher m = COMMAND.matcher(text);
        while (m.find()) {
            int answer;
            if (m.group(1) == null) {
                answer = growIn(next);
            } else if (m.group(1).equals("+")) {
                answer = addIn(next, Integer.parseInt(m.group(2)));
            } else {
                answer = deleteIn(next, Integer.parseInt(m.group(2)));
            }
            if (answer == NONE) {
                return -1000 - done;
            }
            done++;
        }
        return accept(next, done);
    }

    public int undo() {
        if (saved.isEmpty()) {
            throw new IllegalStateException();
        }
        now = saved.removeLast();
        return saved.size();
    }

    public long digest() {
        List<Integer> values = new ArrayList<>();
        for (int what = 0; what <= 8; what++) {
            values.add(info(what));
        }
        for (int bucket = 0; bucket < now.table.length; bucket++) {
            for (int slot = 0; slot < now.s; slot++) {
                for (int what = 0; what <= 3; what++) {
                    values.add(slot(bucket, slot, what));
                }
            }
        }
        for (int i = 0; i < now.stash.size(); i++) {
            for (int what = 0; what <= 3; what++) {
                values.add(stashed(i, what));
            }
        }
        values.add(now.keys.size());
        values.addAll(now.keys);
        values.add(falseKeys(now).size());
        values.add(text.length());
        values.add(saved.size());
        long h = 1960;
        for (int v : values) {
            h = 31 * h + v;
        }
        return h;
    }
}
