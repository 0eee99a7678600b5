import java.util.ArrayList;
import java.util.List;

/**
 * The promises one by one. The keys used most, with seed 0 and 2 bits (home, other bucket): 5 (1, 2); 1, 2, 9, 12
 * and 21 (1, 0); 7 and 17 (3, 0); 0 (2, 1); 3, 6 and 8 (2, 3); 4 (3, 2). The keys 365, 684, 704 and 747 (3, 2) have the
 * same tag, and bodies that begin with the same seven bits, so that each is found by the entries of the others.
 */
public final class PromisesTest {
    private static final Class<?> ARGUMENT = IllegalArgumentException.class;
    private static final Class<?> STATE = IllegalStateException.class;
    private static final Class<?> POSITION = IndexOutOfBoundsException.class;
    private static final int[] BAD_KEYS = {-1, 1000, Integer.MIN_VALUE, Integer.MAX_VALUE};
    private static final int NONE = CuckooAudit.NONE;

    private static int promise;
    private static int asked;
    private static int wrong;

    interface Call {
        void make();
    }

    interface Change {
        int make(CuckooAudit x);
    }

    interface KeyCall {
        void make(int key);
    }

    public static void main(String[] args) {
        keysAndFinding();
        changes();
        whatThereIs();
        predictions();
        audits();
        textsAndState();
        System.out.println("PromisesTest: " + asked + " answers, " + wrong + " are not as due");
        if (wrong != 0) {
            System.exit(1);
        }
    }

    private static void keysAndFinding() {
        newObject();
        tagBodyBucket();
        allCodes();
        found();
        place();
        placeInStash();
        present();
        count();
    }

    private static void changes() {
        add();
        addFails();
        addShortest();
        delete();
        grow();
        growWithStash();
        rebuild();
        setLimit();
        setLength();
        clear();
    }

    private static void whatThereIs() {
        info();
        slot();
        stashed();
        filled();
    }

    private static void predictions() {
        walk();
        walkStep();
        leastMoves();
        roomFor();
    }

    private static void audits() {
        falseKeys();
        firstAndLastKey();
        blamed();
        twins();
        bestSeed();
        leastBits();
        couldFit();
        rateBits();
    }

    private static void textsAndState() {
        append();
        clearText();
        executeSyntax();
        executeCommands();
        undo();
        undoOfEachChange();
        digest();
    }

    // ---- 1 to 8

    private static void newObject() {
        promise = 1;
        CuckooAudit x = new CuckooAudit();
        int[] initial = {4, 2, 5, 0, 10, 0, 0, NONE, 1};
        for (int what = 0; what < initial.length; what++) {
            due("info(" + what + ")", x.info(what), initial[what]);
        }
        due("count", x.count(), 0);
        due("falseKeys", x.falseKeys(0, 999), 0);
        due("the constant", NONE, -1);
        due("digest", x.digest(), -5599141824529239349L);
        throwsDue("undo", STATE, x, x::undo);
        due("clearText", x.clearText(), 0);
    }

    private static void tagBodyBucket() {
        CuckooAudit x = new CuckooAudit();
        promise = 2;
        due("tag(0)", x.tag(0), 35);
        due("tag(5)", x.tag(5), 44);
        due("tag(999)", x.tag(999), 13);
        badKeys(x, x::tag);
        promise = 3;
        due("body(0)", x.body(0), 1918);
        due("body(365)", x.body(365), 0b11001010010111);
        due("body(999)", x.body(999), 5370);
        badKeys(x, x::body);
        promise = 4;
        due("home of 0", x.bucket(0, false), 2);
        due("other of 0", x.bucket(0, true), 1);
        due("other of 15", x.bucket(15, true), 2);
        badKeys(x, key -> x.bucket(key, true));
        badKeys(x, key -> x.bucket(key, false));
        x.rebuild(6, 1, 5, 0);
        due("home of 0 with 6 bits", x.bucket(0, false), 62);
        due("other of 0 with 6 bits", x.bucket(0, true), 37);
        x.rebuild(1, 1, 5, 99);
        due("other of 999 with seed 99", x.bucket(999, true), 1);
        promise = 2;
        due("tag(0) with seed 99", x.tag(0), 38);
        due("tag(999) with seed 99", x.tag(999), 49);
        promise = 3;
        due("body(0) with seed 99", x.body(0), 11647);
        due("body(999) with seed 99", x.body(999), 5738);
    }

    private static void allCodes() {
        for (int seed : new int[] {0, 1, 50, 99}) {
            CuckooAudit x = new CuckooAudit();
            for (int key = 0; key < 1000; key++) {
                if (key % 100 == 0) {
                    x = new CuckooAudit();
                    x.rebuild(3, 1, 5, seed);
                }
                int v = (key * 48271 + seed * 7919 + 12345) % 1048576;
                v = v ^ (v / 512);
                v = (int) ((v * 7621L + 1) % 1048576);
                v = v ^ (v / 2048);
                promise = 2;
                due("tag(" + key + ")", x.tag(key), v / 16384);
                promise = 3;
                due("body(" + key + ")", x.body(key), v % 16384);
                promise = 4;
                int step = (37 * (v / 16384) + 11) % 64;
                step = step % 2 == 0 ? step + 1 : step;
                due("bucket(" + key + ", false)", x.bucket(key, false), v % 8);
                due("bucket(" + key + ", true)", x.bucket(key, true), (v % 8) ^ (step % 8));
            }
        }
    }

    private static void found() {
        promise = 5;
        CuckooAudit x = new CuckooAudit();
        due("found(365) of none", x.found(365), false);
        x.add(365);
        due("found(365)", x.found(365), true);
        due("found(684), a false one", x.found(684), true);
        due("found(13), which has the same tag", x.found(13), false);
        due("found(95), which has the same buckets", x.found(95), false);
        badKeys(x, x::found);
        x = full(1, 1, 1, 2, 0);
        x.setLimit(0);
        due("add(64) to the stash", x.add(64), 100);
        due("found(64) in the stash", x.found(64), true);
        due("found(41), as 64 but for length 1", x.found(41), true);
        x = full(1, 1, 1, 0);
        due("found(36) in its home, side 0", x.found(36), true);
        due("found(41) in its other bucket, but side 0", x.found(41), false);
        x = full(1, 1, 1, 8, 2, 0);
        due("found(41) in the stash, but of another home", x.found(41), false);
        due("found(36) in the stash", x.found(36), true);
        x = full(5, 1, 1, 0);
        x.grow();
        due("length behind grow", x.info(7), 0);
        due("found by an entry of length 0", x.found(306), true);
    }

    private static void place() {
        promise = 6;
        CuckooAudit x = new CuckooAudit();
        due("place(365) of none", x.place(365), NONE);
        x.setLength(2);
        x.add(365);
        due("place(365)", x.place(365), 12);
        x.setLength(5);
        x.add(684);
        due("place(365), the longer one", x.place(365), 13);
        due("place(747), not present", x.place(747), 13);
        x.add(704);
        due("place(704), of two as long the one at home", x.place(704), 13);
        badKeys(x, x::place);
        x = full(2, 1, 5, 4, 365);
        due("place(365) in its other bucket", x.place(365), 8);
        x = full(1, 1, 5, 2);
        x.setLength(2);
        x.add(365);
        x.setLength(4);
        x.add(684);
        due("place(365) in the stash", x.place(365), 1000);
        x.setLength(6);
        x.add(704);
        due("place(365), longest and last", x.place(365), 1001);
        due("place(2)", x.place(2), 4);
    }

    private static void placeInStash() {
        promise = 6;
        CuckooAudit x = full(1, 1, 5, 2, 0);
        x.setLimit(0);
        x.add(365);
        x.add(684);
        due("place(747), of two as long the first", x.place(747), 1000);
        CuckooAudit y = full(1, 1, 6, 2, 0);
        y.setLimit(0);
        y.add(365);
        y.setLength(3);
        y.add(684);
        due("place(747), the longer one, then a shorter one", y.place(747), 1000);
    }

    private static void present() {
        promise = 7;
        CuckooAudit x = new CuckooAudit();
        throwsDue("present(0) of none", POSITION, x, () -> x.present(0));
        x.add(9);
        x.add(0);
        x.add(999);
        x.delete(0);
        x.add(4);
        due("present(0)", x.present(0), 9);
        due("present(1)", x.present(1), 999);
        due("present(2)", x.present(2), 4);
        for (int index : new int[] {-1, 3, 119, 120, Integer.MAX_VALUE, Integer.MIN_VALUE}) {
            throwsDue("present(" + index + ")", POSITION, x, () -> x.present(index));
        }
    }

    private static void count() {
        promise = 8;
        CuckooAudit x = manyKeys();
        due("count", x.count(), 120);
        due("the last key", x.present(119), 119);
        x.delete(50);
        due("count behind delete", x.count(), 119);
        promise = 7;
        due("present(49)", x.present(49), 49);
        due("present(50)", x.present(50), 51);
        due("present(118)", x.present(118), 119);
        throwsDue("present(119)", POSITION, x, () -> x.present(119));
    }

    // ---- 9 to 16

    private static void add() {
        promise = 9;
        CuckooAudit x = new CuckooAudit();
        due("add(1) at home", x.add(1), 0);
        dueSlot(x, 1, 0, 30, 5, 16, 0);
        due("add(2) at home", x.add(2), 0);
        dueSlot(x, 1, 1, 45, 5, 14, 0);
        due("add(9) elsewhere", x.add(9), 0);
        dueSlot(x, 0, 0, 57, 5, 0, 1);
        x.setLength(8);
        x.add(0);
        dueSlot(x, 2, 0, 35, 8, 0b11011111, 0);
        CuckooAudit y = full(2, 1, 5, 5, 2, 7);
        due("add(17), three steps", y.add(17), 3);
        dueSlot(y, 3, 0, 28, 5, 2, 0);
        dueSlot(y, 0, 0, 3, 5, 23, 1);
        dueSlot(y, 1, 0, 45, 5, 14, 0);
        dueSlot(y, 2, 0, 44, 5, 15, 1);
        due("present", y.present(3), 17);
        due("the stash", y.info(6), 0);
        CuckooAudit z = full(2, 1, 5, 5, 2, 7);
        z.setLimit(3);
        due("add(17) with just enough steps", z.add(17), 3);
        z.undo();
        z.setLimit(2);
        due("add(17) with one step too few", z.add(17), 100);
        dueSlot(z, 3, 0, 3, 5, 23, 0);
        dueSlot(z, 0, 0, 45, 5, 14, 1);
        dueSlot(z, 1, 0, 44, 5, 15, 0);
        dueSlot(z, 2, 0, NONE, NONE, NONE, NONE);
        due("its home in the stash", z.stashed(0, 3), 3);
        due("undo", z.undo(), 3);
        due("count behind undo", z.count(), 3);
    }

    private static void addFails() {
        promise = 9;
        CuckooAudit x = full(1, 1, 4, 1, 2, 3, 4);
        badKeys(x, x::add);
        throwsDue("add of a present key", STATE, x, () -> x.add(1));
        due("the last one", x.add(5), 100);
        throwsDue("add without room", STATE, x, () -> x.add(6));
        CuckooAudit many = manyKeys();
        throwsDue("a key too many", STATE, many, () -> many.add(500));
        badKeys(many, many::add);
        many.delete(3);
        due("add again", many.add(500), many.count() == 120 ? 0 : NONE);
    }

    private static void addShortest() {
        promise = 10;
        CuckooAudit x = new CuckooAudit();
        due("at home", x.addShortest(1), 0);
        due("at home again", x.addShortest(2), 0);
        due("elsewhere", x.addShortest(9), 0);
        dueSlot(x, 0, 0, 57, 5, 0, 1);
        CuckooAudit y = full(2, 1, 5, 5, 2, 7);
        due("addShortest(17)", y.addShortest(17), 2);
        dueSlot(y, 3, 0, 3, 5, 23, 0);
        dueSlot(y, 0, 0, 28, 5, 2, 1);
        dueSlot(y, 1, 0, 45, 5, 14, 0);
        dueSlot(y, 2, 0, 44, 5, 15, 1);
        due("present", y.present(3), 17);
        throwsDue("a present key", STATE, y, () -> y.addShortest(17));
        throwsDue("a full filter", STATE, y, () -> y.addShortest(4));
        badKeys(y, y::addShortest);
        due("undo", y.undo(), 3);
        due("found behind undo", y.found(17), false);
        y.setLimit(0);
        due("the limit does not matter", y.addShortest(17), 2);
        chainThroughBucketZero();
        CuckooAudit z = full(2, 1, 5, 1, 2);
        throwsDue("no chain, though the stash is empty", STATE, z, () -> z.addShortest(9));
        CuckooAudit many = manyKeys();
        throwsDue("a key too many", STATE, many, () -> many.addShortest(500));
    }

    private static void chainThroughBucketZero() {
        CuckooAudit x = full(2, 1, 5, 1, 0, 7, 17);
        x.delete(7);
        due("leastMoves(5)", x.leastMoves(5), 2);
        due("addShortest(5)", x.addShortest(5), 2);
        dueSlot(x, 0, 0, 30, 5, 16, 1);
        dueSlot(x, 1, 0, 44, 5, 15, 0);
        dueSlot(x, 2, 0, 35, 5, 31, 0);
        dueSlot(x, 3, 0, 28, 5, 2, 0);
    }

    private static void delete() {
        promise = 11;
        CuckooAudit x = full(2, 1, 5, 1, 2, 7, 0);
        x.setLimit(0);
        due("add(9)", x.add(9), 100);
        due("add(4)", x.add(4), 100);
        due("delete(0) lets 4 out", x.delete(0), 1);
        dueSlot(x, 2, 0, 45, 5, 6, 1);
        due("9 stays", x.stashed(0, 0), 57);
        due("the stash", x.info(6), 1);
        throwsDue("a key that is not present", STATE, x, () -> x.delete(0));
        badKeys(x, x::delete);
        due("delete(7)", x.delete(7), 0);
        due("delete(1) lets 9 out", x.delete(1), 1);
        dueSlot(x, 1, 0, 57, 5, 0, 0);
        due("found(1)", x.found(1), false);
        CuckooAudit y = full(2, 2, 2, 365);
        y.setLength(5);
        y.add(684);
        throwsDue("a false key", STATE, y, () -> y.delete(747));
        due("delete(365)", y.delete(365), 0);
        dueSlot(y, 3, 1, NONE, NONE, NONE, NONE);
        dueSlot(y, 3, 0, 13, 2, 1, 0);
        due("found(684)", y.found(684), true);
        due("present", y.present(0), 684);
        due("undo", y.undo() >= 0 && y.count() == 2, true);
        CuckooAudit z = full(1, 1, 5, 2, 0);
        z.setLimit(0);
        z.add(365);
        z.add(1);
        due("delete from the stash", z.delete(365), 0);
        due("the stash moves up", z.stashed(0, 0), 30);
        due("the stash is shorter", z.info(6), 1);
        z.undo();
        due("add a third one", z.add(4), 100);
        due("delete the first of three", z.delete(365), 0);
        due("the stash moves up", z.stashed(0, 0), 30);
        due("the stash moves up", z.stashed(1, 0), 45);
        due("the stash is shorter", z.info(6), 2);
    }

    private static void grow() {
        promise = 12;
        CuckooAudit x = full(2, 2, 5, 0, 3, 6, 8);
        dueSlot(x, 3, 0, 34, 5, 17, 1);
        due("grow", x.grow(), 8);
        dueSlot(x, 6, 0, 35, 4, 15, 0);
        dueSlot(x, 6, 1, 14, 4, 10, 0);
        dueSlot(x, 3, 0, 34, 4, 8, 1);
        dueSlot(x, 7, 1, 1, 4, 12, 1);
        due("the length of new keys", x.info(2), 5);
        due("undo", x.undo() >= 0 && x.info(0) == 4, true);
        dueSlot(x, 3, 0, 34, 5, 17, 1);
        CuckooAudit y = new CuckooAudit();
        due("grow", y.grow(), 8);
        due("grow", y.grow(), 16);
        due("grow", y.grow(), 32);
        due("grow", y.grow(), 64);
        throwsDue("64 buckets", STATE, y, y::grow);
        CuckooAudit z = full(2, 2, 1, 0);
        due("grow to length 0", z.grow(), 8);
        throwsDue("an entry of length 0", STATE, z, z::grow);
    }

    private static void growWithStash() {
        promise = 12;
        CuckooAudit x = full(1, 1, 5, 2, 0);
        x.setLimit(0);
        x.add(1);
        x.add(9);
        x.add(12);
        due("grow", x.grow(), 4);
        dueSlot(x, 1, 0, 45, 4, 14, 0);
        dueSlot(x, 2, 0, 35, 4, 15, 0);
        dueSlot(x, 0, 0, 30, 4, 0, 1);
        due("two stay", x.info(6), 2);
        due("9 stays", x.stashed(0, 0), 57);
        due("its length", x.stashed(0, 1), 4);
        due("its fingerprint", x.stashed(0, 2), 0);
        due("12 stays", x.stashed(1, 2), 3);
        due("its home", x.stashed(1, 3), 1);
        CuckooAudit y = full(1, 1, 1, 2, 0);
        y.setLimit(0);
        y.setLength(8);
        y.add(365);
        due("grow", y.grow(), 4);
        due("365 left the stash", y.info(6), 0);
        dueSlot(y, 3, 0, 13, 7, 0b0100101, 0);
        CuckooAudit z = full(1, 1, 2, 2, 0);
        z.setLimit(0);
        z.setLength(1);
        z.add(1);
        z.add(9);
        z.grow();
        due("the smallest length, in the stash", z.info(7), 0);
        throwsDue("length 0 in the stash", STATE, z, z::grow);
    }

    private static void rebuild() {
        promise = 13;
        CuckooAudit x = full(2, 2, 5, 1, 2, 3, 4, 5);
        due("rebuild", x.rebuild(1, 1, 4, 0), 3);
        due("the first key", x.slot(1, 0, 0), 30);
        due("the second key", x.slot(0, 0, 0), 45);
        due("the third key", x.stashed(0, 0), 14);
        due("the buckets", x.info(0), 2);
        due("s", x.info(1), 1);
        due("f", x.info(2), 4);
        due("undo", x.undo() >= 0 && x.info(0) == 4, true);
        due("rebuild", x.rebuild(6, 4, 8, 99), 0);
        due("the seed", x.info(3), 99);
        due("the entries", x.info(5), 5);
        due("the limit stays", x.info(4), 10);
        x.add(6);
        throwsDue("six keys for five places", STATE, x, () -> x.rebuild(1, 1, 4, 0));
        int[][] bad = {{0, 1, 1, 0}, {7, 1, 1, 0}, {1, 0, 1, 0}, {1, 5, 1, 0}, {1, 1, 0, 0}, {1, 1, 9, 0},
            {1, 1, 1, -1}, {1, 1, 1, 100}};
        for (int[] b : bad) {
            throwsDue("rebuild out of range", ARGUMENT, x, () -> x.rebuild(b[0], b[1], b[2], b[3]));
        }
        CuckooAudit z = full(2, 1, 5, 5, 2);
        z.setLimit(0);
        due("add(1)", z.add(1), 100);
        due("the limit counts", z.rebuild(2, 1, 5, 0), 1);
        z.setLimit(10);
        due("the limit counts", z.rebuild(2, 1, 5, 0), 0);
    }

    private static void setLimit() {
        promise = 14;
        CuckooAudit x = full(2, 1, 5, 5, 2, 7);
        due("setLimit(0)", x.setLimit(0), 10);
        due("setLimit(50)", x.setLimit(50), 0);
        due("setLimit(50) again", x.setLimit(50), 50);
        due("info(4)", x.info(4), 50);
        for (int bad : new int[] {-1, 51, Integer.MIN_VALUE, Integer.MAX_VALUE}) {
            throwsDue("setLimit(" + bad + ")", ARGUMENT, x, () -> x.setLimit(bad));
        }
        x.undo();
        due("undo of no change", x.info(4), 50);
        x.undo();
        due("undo", x.info(4), 0);
        due("no walk", x.walk(17), 100);
    }

    private static void setLength() {
        promise = 15;
        CuckooAudit x = new CuckooAudit();
        due("setLength(1)", x.setLength(1), 5);
        x.add(0);
        due("setLength(8)", x.setLength(8), 1);
        x.add(1);
        due("info(2)", x.info(2), 8);
        dueSlot(x, 2, 0, 35, 1, 1, 0);
        dueSlot(x, 1, 0, 30, 8, 0b00110000, 0);
        for (int bad : new int[] {0, 9, -1, Integer.MIN_VALUE, Integer.MAX_VALUE}) {
            throwsDue("setLength(" + bad + ")", ARGUMENT, x, () -> x.setLength(bad));
        }
        x.undo();
        x.undo();
        due("undo", x.info(2), 1);
    }

    private static void clear() {
        promise = 16;
        CuckooAudit x = full(1, 1, 3, 1, 2, 3);
        x.setLimit(7);
        x.append('+');
        due("clear", x.clear(), 3);
        int[] left = {2, 1, 3, 0, 7, 0, 0, NONE, 1};
        for (int what = 0; what < left.length; what++) {
            due("info(" + what + ")", x.info(what), left[what]);
        }
        due("count", x.count(), 0);
        due("found", x.found(1), false);
        due("clear again", x.clear(), 0);
        due("undo", x.undo(), 3);
        due("undo", x.undo(), 2);
        due("the keys are back", x.count() + x.info(6), 4);
        due("the text stays", x.clearText(), 1);
    }

    // ---- 17 to 20

    private static void info() {
        promise = 17;
        CuckooAudit x = full(1, 1, 3, 1, 2, 3, 4);
        x.setLength(8);
        x.add(5);
        int[] want = {2, 1, 8, 0, 10, 2, 3, 3, 1};
        for (int what = 0; what < want.length; what++) {
            due("info(" + what + ")", x.info(what), want[what]);
        }
        for (int bad : new int[] {-1, 9, Integer.MIN_VALUE, Integer.MAX_VALUE}) {
            throwsDue("info(" + bad + ")", ARGUMENT, x, () -> x.info(bad));
        }
        CuckooAudit y = full(2, 1, 8, 1, 2);
        y.setLength(4);
        y.add(9);
        due("the smallest length, in the stash", y.info(7), 4);
        CuckooAudit first = full(2, 1, 3, 10);
        first.setLength(5);
        first.add(1);
        due("the smallest length, in the first slot", first.info(7), 3);
        CuckooAudit z = full(5, 1, 1, 0);
        due("doubling is possible", z.info(8), 1);
        z.grow();
        due("doubling 64 buckets", z.info(8), 0);
        z = full(4, 1, 1, 0);
        z.grow();
        due("doubling with length 0", z.info(8), 0);
    }

    private static void slot() {
        promise = 18;
        CuckooAudit x = full(2, 2, 5, 2, 1, 9);
        dueSlot(x, 1, 0, 45, 5, 14, 0);
        dueSlot(x, 0, 0, 57, 5, 0, 1);
        dueSlot(x, 0, 1, NONE, NONE, NONE, NONE);
        int[][] bad = {{-1, 0, 0}, {4, 0, 0}, {0, -1, 0}, {0, 2, 0}, {4, 0, 9}, {0, 2, -1},
            {Integer.MAX_VALUE, 0, 0}, {0, Integer.MIN_VALUE, 0}, {536870912, 0, 0}};
        for (int[] b : bad) {
            throwsDue("no slot " + b[0] + ", " + b[1], POSITION, x, () -> x.slot(b[0], b[1], b[2]));
        }
        throwsDue("what 4", ARGUMENT, x, () -> x.slot(1, 0, 4));
        throwsDue("what -1", ARGUMENT, x, () -> x.slot(1, 0, -1));
        throwsDue("what 4 of an empty slot", ARGUMENT, x, () -> x.slot(0, 1, 4));
    }

    private static void stashed() {
        promise = 19;
        CuckooAudit x = full(1, 1, 5, 1, 2);
        throwsDue("stashed(0) of none", POSITION, x, () -> x.stashed(0, 0));
        x.add(0);
        x.add(365);
        int[][] want = {{35, 5, 31, 0}, {13, 5, 11, 1}};
        for (int what = 0; what < 4; what++) {
            due("stashed(0, " + what + ")", x.stashed(0, what), want[0][what]);
            due("stashed(1, " + what + ")", x.stashed(1, what), want[1][what]);
        }
        for (int index : new int[] {-1, 2, 3, Integer.MAX_VALUE}) {
            throwsDue("stashed(" + index + ")", POSITION, x, () -> x.stashed(index, 4));
        }
        throwsDue("what 4", ARGUMENT, x, () -> x.stashed(1, 4));
        throwsDue("what -1", ARGUMENT, x, () -> x.stashed(1, -1));
    }

    private static void filled() {
        promise = 20;
        CuckooAudit x = full(2, 4, 5, 1, 2, 9, 12, 21, 5);
        int[] want = {1, 2, 0, 0, 1};
        for (int entries = 0; entries < want.length; entries++) {
            due("filled(" + entries + ")", x.filled(entries), want[entries]);
        }
        throwsDue("filled(-1)", ARGUMENT, x, () -> x.filled(-1));
        throwsDue("filled(5)", ARGUMENT, x, () -> x.filled(5));
    }

    // ---- 21 to 24

    private static void walk() {
        promise = 21;
        CuckooAudit x = full(2, 1, 5, 5, 2, 7);
        long before = x.digest();
        due("walk(0), home empty", x.walk(0), 0);
        due("walk(5), other bucket empty", x.walk(5), 0);
        due("walk(17)", x.walk(17), 3);
        due("walk(7), which is present", x.walk(7), 3);
        due("nothing has changed", x.digest(), before);
        badKeys(x, x::walk);
        x.setLimit(2);
        due("walk(17) to the stash", x.walk(17), 100);
        CuckooAudit y = full(1, 1, 5, 1, 2, 3, 4, 5);
        due("walk without room", y.walk(6), NONE);
        due("walk(500) with 120 keys", manyKeys().walk(500), 0);
    }

    private static void walkStep() {
        promise = 22;
        CuckooAudit x = full(2, 1, 5, 5, 2, 7);
        int[][] want = {{12, 3}, {0, 45}, {4, 44}, {NONE, NONE}};
        for (int step = 0; step < want.length; step++) {
            due("place of step " + step, x.walkStep(17, step, false), want[step][0]);
            due("tag of step " + step, x.walkStep(17, step, true), want[step][1]);
        }
        due("step -1", x.walkStep(17, -1, false), NONE);
        due("the lowest step", x.walkStep(17, Integer.MIN_VALUE, true), NONE);
        due("the highest step", x.walkStep(17, Integer.MAX_VALUE, true), NONE);
        due("no walk", x.walkStep(0, 0, false), NONE);
        badKeys(x, key -> x.walkStep(key, 0, true));
        badKeys(x, key -> x.walkStep(key, -1, false));
        x.setLimit(2);
        due("a walk that ends badly", x.walkStep(17, 1, true), 45);
        due("behind its end", x.walkStep(17, 2, true), NONE);
        x.setLimit(0);
        due("no step at all", x.walkStep(17, 0, true), NONE);
        CuckooAudit y = full(1, 2, 5, 1, 2, 5, 7);
        int[][] turns = {{4, 30}, {1, 3}, {4, 57}, {1, 30}};
        for (int step = 0; step < turns.length; step++) {
            due("place of step " + step, y.walkStep(9, step, false), turns[step][0]);
            due("tag of step " + step, y.walkStep(9, step, true), turns[step][1]);
        }
        due("the last step", y.walkStep(9, 9, false), 1);
        due("behind the limit", y.walkStep(9, 10, false), NONE);
        y.setLimit(50);
        due("the last step of 50", y.walkStep(9, 49, false), 1);
        due("step 50", y.walkStep(9, 50, false), NONE);
        CuckooAudit z = full(1, 1, 5, 1, 2, 3, 4, 5);
        due("a step though adding fails", z.walkStep(6, 0, true), 45);
        CuckooAudit w = full(1, 3, 5, 1, 2, 9, 5, 7, 4);
        int[] places = {4, 1, 6, 0, 5, 2};
        for (int step = 0; step < places.length; step++) {
            due("three slots, step " + step, w.walkStep(21, step, false), places[step]);
        }
    }

    private static void leastMoves() {
        promise = 23;
        CuckooAudit x = full(2, 1, 5, 5, 2, 7);
        long before = x.digest();
        due("leastMoves(0)", x.leastMoves(0), 0);
        due("leastMoves(4), other bucket empty", x.leastMoves(4), 0);
        due("leastMoves(1)", x.leastMoves(1), 1);
        due("leastMoves(17)", x.leastMoves(17), 2);
        due("leastMoves(7), which is present", x.leastMoves(7), 2);
        due("nothing has changed", x.digest(), before);
        badKeys(x, x::leastMoves);
        due("no moves help", full(2, 1, 5, 1, 2).leastMoves(9), NONE);
        due("a full filter", full(1, 1, 5, 1, 2).leastMoves(9), NONE);
        due("with 120 keys", manyKeys().leastMoves(500), 0);
    }

    private static void roomFor() {
        promise = 24;
        CuckooAudit x = full(1, 1, 5, 0);
        long before = x.digest();
        due("two slots and the stash", x.roomFor(0, 999), 4);
        due("roomFor(0, 2)", x.roomFor(0, 2), 2);
        due("roomFor(999, 999)", x.roomFor(999, 999), 1);
        due("roomFor(0, 0)", x.roomFor(0, 0), 0);
        due("nothing has changed", x.digest(), before);
        badRanges(x, x::roomFor);
        CuckooAudit y = new CuckooAudit();
        y.rebuild(6, 4, 8, 0);
        due("120 keys", y.roomFor(0, 999), 120);
        due("119 keys", y.roomFor(881, 999), 119);
        due("none more", manyKeys().roomFor(0, 999), 0);
    }

    // ---- 25 to 32

    private static void falseKeys() {
        CuckooAudit x = new CuckooAudit();
        promise = 26;
        due("falseKey(0) of none", x.falseKey(0), NONE);
        x.add(704);
        promise = 25;
        due("all", x.falseKeys(0, 999), 3);
        due("falseKeys(365, 684)", x.falseKeys(365, 684), 2);
        due("falseKeys(366, 683)", x.falseKeys(366, 683), 0);
        due("falseKeys(747, 747)", x.falseKeys(747, 747), 1);
        due("falseKeys(704, 704), present", x.falseKeys(704, 704), 0);
        badRanges(x, x::falseKeys);
        promise = 26;
        due("falseKey(0)", x.falseKey(0), 365);
        due("falseKey(1)", x.falseKey(1), 684);
        due("falseKey(2)", x.falseKey(2), 747);
        due("falseKey(3)", x.falseKey(3), NONE);
        due("falseKey(-1)", x.falseKey(-1), NONE);
        due("the lowest index", x.falseKey(Integer.MIN_VALUE), NONE);
        due("the highest index", x.falseKey(Integer.MAX_VALUE), NONE);
        x.add(365);
        due("falseKey(0) of two", x.falseKey(0), 684);
        promise = 25;
        due("two are left", x.falseKeys(0, 999), 2);
    }

    /** 36 finds 0, 13 finds 999, and 381 would find 1000, if it were a key. */
    private static void firstAndLastKey() {
        CuckooAudit x = full(1, 4, 1, 36, 13, 381);
        promise = 25;
        due("all", x.falseKeys(0, 999), 11);
        due("the first one", x.falseKeys(0, 0), 1);
        due("the last one", x.falseKeys(999, 999), 1);
        promise = 26;
        due("falseKey(0)", x.falseKey(0), 0);
        due("falseKey(1)", x.falseKey(1), 123);
        due("falseKey(10)", x.falseKey(10), 999);
        due("falseKey(11)", x.falseKey(11), NONE);
        promise = 27;
        int[] keys = {36, 13, 381};
        int[] blamed = {5, 5, 1};
        for (int i = 0; i < keys.length; i++) {
            due("the entry of " + keys[i], x.blamed(x.place(keys[i]) / 4, x.place(keys[i]) % 4), blamed[i]);
        }
        promise = 32;
        due("11 of 997", x.rateBits(), Float.floatToIntBits(11f / 997f));
        promise = 37;
        due("the digest", x.digest(), digestOf(x, 0, 4));
    }

    private static void blamed() {
        promise = 27;
        CuckooAudit x = new CuckooAudit();
        due("an empty slot", x.blamed(0, 0), 0);
        x.add(704);
        due("the only entry", x.blamed(3, 0), 3);
        due("an empty slot beside it", x.blamed(3, 1), 0);
        x.add(365);
        due("two entries find the same keys", x.blamed(3, 0) + x.blamed(3, 1), 0);
        for (int[] b : new int[][] {{-1, 0}, {4, 0}, {0, -1}, {0, 2}, {Integer.MAX_VALUE, 1}, {1, Integer.MIN_VALUE}}) {
            throwsDue("no slot " + b[0] + ", " + b[1], POSITION, x, () -> x.blamed(b[0], b[1]));
        }
        // With length 6 the entries of 365 (and 684) and of 704 (and 747) differ; with 5 they do not.
        CuckooAudit y = full(2, 2, 6, 365);
        y.setLength(5);
        y.add(704);
        due("684 is found by both", y.blamed(3, 0), 0);
        due("747 is found by one", y.blamed(3, 1), 1);
        CuckooAudit z = full(2, 1, 5, 4, 704);
        due("on side 1", z.blamed(2, 0), 3);
    }

    private static void twins() {
        promise = 28;
        CuckooAudit x = new CuckooAudit();
        due("none", x.twins(), 0);
        x.add(365);
        due("one key", x.twins(), 0);
        x.add(684);
        due("one pair", x.twins(), 1);
        x.add(704);
        due("three pairs", x.twins(), 3);
        x.add(747);
        x.add(13);
        due("six pairs", x.twins(), 6);
        x.setLength(6);
        due("with length 6", x.twins(), 2);
        x.setLength(7);
        due("with length 7", x.twins(), 0);
        CuckooAudit y = full(1, 2, 1, 0, 41);
        due("the same but for the home", y.twins(), 0);
    }

    private static void bestSeed() {
        promise = 29;
        CuckooAudit x = new CuckooAudit();
        due("without keys", x.bestSeed(20), 0);
        throwsDue("bestSeed(0)", ARGUMENT, x, () -> x.bestSeed(0));
        throwsDue("bestSeed(21)", ARGUMENT, x, () -> x.bestSeed(21));
        x.rebuild(2, 2, 5, 9);
        x.add(704);
        long before = x.digest();
        due("the seed with the fewest", x.bestSeed(20), bestSeedFor(704, 2, 5, 20));
        due("of ten seeds", x.bestSeed(10), bestSeedFor(704, 2, 5, 10));
        due("only seed 0", x.bestSeed(1), 0);
        for (int key = 0; key < 100; key++) {
            due("for " + key, full(1, 2, 1, key).bestSeed(20), bestSeedFor(key, 1, 1, 20));
        }
        due("nothing has changed", x.digest(), before);
        CuckooAudit z = full(2, 1, 5, 5, 2, 1, 9, 12, 21);
        due("as it was built", z.bestSeed(1), 0);
        z.setLimit(0);
        due("not to be rebuilt without walks", z.bestSeed(1), NONE);
    }

    private static int bestSeedFor(int key, int bits, int length, int seeds) {
        int best = NONE;
        int fewest = 1000;
        for (int seed = 0; seed < seeds; seed++) {
            CuckooAudit x = new CuckooAudit();
            x.rebuild(bits, 2, length, seed);
            x.add(key);
            int falseOnes = x.falseKeys(0, 999);
            if (falseOnes < fewest) {
                fewest = falseOnes;
                best = seed;
            }
        }
        return best;
    }

    private static void leastBits() {
        promise = 30;
        CuckooAudit x = full(2, 1, 5, 5, 2, 1, 9, 12, 21);
        long before = x.digest();
        due("one slot", x.leastBits(1, 5), 2);
        due("two slots", x.leastBits(2, 5), 1);
        due("nothing has changed", x.digest(), before);
        x.setLimit(0);
        due("one slot without walks", x.leastBits(1, 5), 3);
        int[][] bad = {{0, 1}, {5, 1}, {1, 0}, {1, 9}, {Integer.MIN_VALUE, 1}, {1, Integer.MAX_VALUE}};
        for (int[] b : bad) {
            throwsDue("leastBits out of range", ARGUMENT, x, () -> x.leastBits(b[0], b[1]));
        }
        due("without keys", new CuckooAudit().leastBits(1, 1), 1);
        due("120 keys in 64 slots", manyKeys().leastBits(1, 8), NONE);
        CuckooAudit many = full(6, 4, 8);
        for (int key = 0; key < 36; key++) {
            many.add(key);
        }
        many.setLimit(50);
        due("36 keys, more than 32 slots and the stash", many.leastBits(1, 8), 6);
    }

    private static void couldFit() {
        promise = 31;
        CuckooAudit x = new CuckooAudit();
        due("without keys", x.couldFit(1, 1, 0), true);
        x.add(5);
        x.add(2);
        x.add(1);
        long before = x.digest();
        due("5 has to move", x.couldFit(2, 1, 0), true);
        due("three in two buckets", x.couldFit(1, 1, 0), false);
        x.add(9);
        due("three for the same two buckets", x.couldFit(2, 1, 0), false);
        due("with two slots", x.couldFit(2, 2, 0), true);
        x.undo();
        due("nothing has changed", x.digest(), before);
        int[][] bad = {{0, 1, 0}, {7, 1, 0}, {1, 0, 0}, {1, 5, 0}, {1, 1, -1}, {1, 1, 100}};
        for (int[] b : bad) {
            throwsDue("couldFit out of range", ARGUMENT, x, () -> x.couldFit(b[0], b[1], b[2]));
        }
        CuckooAudit y = full(2, 3, 5, 1, 2, 9, 12, 21);
        due("five for four slots, others empty", y.couldFit(2, 2, 0), false);
        CuckooAudit z = full(1, 1, 5, 1, 2, 3);
        due("the stash does not count", z.couldFit(1, 1, 0), false);
        due("the seed counts", seedsThatFit(y) > 0 && seedsThatFit(y) < 100, true);
        due("the limit does not count", z.setLimit(0) == 10 && full(2, 1, 5, 5, 2, 1).couldFit(2, 1, 0), true);
    }

    private static int seedsThatFit(CuckooAudit x) {
        int fit = 0;
        for (int seed = 0; seed < 100; seed++) {
            fit += x.couldFit(2, 2, seed) ? 1 : 0;
        }
        return fit;
    }

    private static void rateBits() {
        promise = 32;
        CuckooAudit x = new CuckooAudit();
        due("without keys", x.rateBits(), 0);
        x.add(704);
        due("3 of 999", x.rateBits(), Float.floatToIntBits(3f / 999f));
        x.add(365);
        due("2 of 998", x.rateBits(), Float.floatToIntBits(2f / 998f));
        CuckooAudit y = new CuckooAudit();
        y.rebuild(6, 4, 1, 0);
        for (int key = 0; key < 120; key++) {
            y.add(key);
            float rate = (float) y.falseKeys(0, 999) / (float) (999 - key);
            due("behind " + (key + 1) + " keys", y.rateBits(), Float.floatToIntBits(rate));
        }
        CuckooAudit z = full(1, 4, 1, 1, 2, 4, 5, 0, 3, 6, 8);
        float rate = (float) z.falseKeys(0, 999) / 992f;
        due("many false ones", z.rateBits(), Float.floatToIntBits(rate));
    }

    // ---- 33 to 37

    private static void append() {
        promise = 33;
        CuckooAudit x = new CuckooAudit();
        for (int i = 1; i <= 100; i++) {
            due("append", x.append(i % 2 == 0 ? 0 : 127), i);
            if (i == 50 || i == 100) {
                throwsDue("append(-1)", ARGUMENT, x, () -> x.append(-1));
                throwsDue("append(128)", ARGUMENT, x, () -> x.append(128));
            }
        }
        throwsDue("a byte too many", STATE, x, () -> x.append(0));
        throwsDue("append is not undoable", STATE, x, x::undo);
        due("the first byte", x.execute(), -10);
        promise = 34;
        due("clearText", x.clearText(), 100);
        due("clearText again", x.clearText(), 0);
        due("append behind it", x.append('*'), 1);
    }

    private static void clearText() {
        promise = 34;
        CuckooAudit x = new CuckooAudit();
        write(x, "+1;");
        x.execute();
        due("clearText", x.clearText(), 3);
        due("execute", x.execute(), 0);
        due("not undoable", x.undo(), 1);
        due("not undoable", x.undo(), 0);
        due("not brought back", x.clearText(), 0);
    }

    private static void executeSyntax() {
        promise = 35;
        String[] texts = {"+", "+1", "+12", "+123", "*", "+1;-", "+1234;", "1", "+;", "*1;", "**;", "+1;x", "+ 1;", " ",
            ";", "+1;;", "+1,", "+-1;", "-1+2;", "+1;+1;x", "*;*", "+/;", "+:;", "+1:;"};
        int[] positions = {1, 2, 3, 4, 1, 4, 4, 0, 1, 1, 1, 3, 1, 0, 0, 3, 2, 1, 2, 6, 3, 1, 1, 2};
        for (int i = 0; i < texts.length; i++) {
            CuckooAudit x = new CuckooAudit();
            write(x, texts[i]);
            long before = x.digest();
            due("execute " + texts[i], x.execute(), -10 - positions[i]);
            due("nothing has changed by " + texts[i], x.digest(), before);
        }
        CuckooAudit x = new CuckooAudit();
        for (int i = 0; i < 20; i++) {
            write(x, "+123;");
        }
        due("100 bytes", x.execute(), -1001);
        x.clearText();
        for (int i = 0; i < 50; i++) {
            write(x, "*;");
        }
        due("100 bytes", x.execute(), -1004);
        x.clearText();
        write(x, "+1;".repeat(33) + "+");
        due("an error at position 100", x.execute(), -110);
    }

    private static void executeCommands() {
        promise = 35;
        CuckooAudit x = new CuckooAudit();
        due("an empty text", x.execute(), 0);
        due("one state is saved", x.undo(), 0);
        write(x, "+1;+002;+09;-1;*;+999;+0;");
        due("execute", x.execute(), 7);
        int[] keys = {2, 9, 999, 0};
        for (int i = 0; i < keys.length; i++) {
            due("present(" + i + ")", x.present(i), keys[i]);
        }
        due("count", x.count(), 4);
        due("the buckets", x.info(0), 8);
        CuckooAudit y = full(2, 2, 5, 1, 2, 9);
        y.delete(1);
        y.grow();
        y.add(999);
        y.add(0);
        for (int bucket = 0; bucket < 8; bucket++) {
            due("bucket " + bucket, x.slot(bucket, 0, 0), y.slot(bucket, 0, 0));
        }
        long before = x.digest();
        due("again", x.execute(), -1001);
        due("nothing has changed", x.digest(), before);
        due("one saved state for all", x.undo(), 0);
        due("all is undone", x.count() + x.info(0), 4);
        due("the text stays", x.clearText(), 25);
        String[] failing = {"-1;", "+1;+2;+1;", "+1;-1;-1;", "*;*;*;*;*;"};
        int[] commands = {0, 2, 2, 4};
        for (int i = 0; i < failing.length; i++) {
            x.clearText();
            write(x, failing[i]);
            before = x.digest();
            due("execute " + failing[i], x.execute(), -1000 - commands[i]);
            due("nothing has changed by " + failing[i], x.digest(), before);
        }
        CuckooAudit z = full(1, 1, 5, 0, 1, 2, 3, 4);
        write(z, "-4;+5;+6;");
        due("no room", z.execute(), -1002);
        CuckooAudit many = manyKeys();
        write(many, "+500;");
        due("120 keys", many.execute(), -1000);
        promise = 34;
        due("clearText", many.clearText(), 5);
    }

    private static void undo() {
        promise = 36;
        CuckooAudit x = new CuckooAudit();
        for (int key = 0; key < 6; key++) {
            x.add(key);
        }
        write(x, "+");
        due("undo", x.undo(), 3);
        due("undo", x.undo(), 2);
        x.add(100);
        due("present(4)", x.present(4), 100);
        due("undo", x.undo(), 2);
        due("undo", x.undo(), 1);
        due("undo", x.undo(), 0);
        due("the oldest one kept", x.count(), 2);
        throwsDue("no more", STATE, x, x::undo);
        due("the text stays", x.clearText(), 1);
        throwsDue("a failed call saves nothing", STATE, x, () -> x.add(1));
        throwsDue("no more", STATE, x, x::undo);
    }

    /** Each change is undone, and does the same behind questions and an undone change as on a new object. */
    private static void undoOfEachChange() {
        promise = 36;
        List<Change> changes = List.of(x -> x.add(3), x -> x.addShortest(3), x -> x.delete(365), x -> x.grow(),
                x -> x.rebuild(3, 1, 2, 5), x -> x.setLimit(1), x -> x.setLimit(10), x -> x.setLength(1),
                x -> x.setLength(5), x -> x.clear(), x -> x.execute());
        List<Change> others = List.of(x -> x.couldFit(2, 1, 7) ? 1 : 0, x -> x.roomFor(0, 999), x -> x.bestSeed(3),
                x -> x.leastBits(1, 1), x -> x.blamed(1, 0), x -> x.walk(500), x -> x.leastMoves(500), x -> 0,
                x -> x.clear() + x.undo(), x -> x.rebuild(1, 4, 1, 1) + x.undo());
        for (int i = 0; i < changes.size(); i++) {
            for (int j = 0; j < others.size(); j++) {
                CuckooAudit x = full(2, 2, 5, 1, 2, 9, 365);
                CuckooAudit fresh = full(2, 2, 5, 1, 2, 9, 365);
                write(x, "+3;*;-9;");
                write(fresh, "+3;*;-9;");
                String before = stateOf(fresh);
                others.get(j).make(x);
                due("answer of " + i + " behind " + j, changes.get(i).make(x), changes.get(i).make(fresh));
                due("state of " + i + " behind " + j, stateOf(x).equals(stateOf(fresh)), true);
                x.undo();
                fresh.undo();
                due("undo of " + i, stateOf(fresh).equals(before), true);
                due("undo of " + i + " behind " + j, stateOf(x).equals(before), true);
            }
        }
    }

    private static void digest() {
        promise = 37;
        CuckooAudit x = new CuckooAudit();
        due("a new object", x.digest(), digestOf(x, 0, 0));
        write(x, "*;");
        x.execute();
        due("with a text and a saved state", x.digest(), digestOf(x, 2, 1));
        x.rebuild(1, 2, 5, 0);
        for (int key : new int[] {365, 704, 2, 1, 9, 12}) {
            x.add(key);
        }
        due("with a stash", x.info(6), 2);
        due("with false keys", x.falseKeys(0, 999) > 0, true);
        due("with all of it", x.digest(), digestOf(x, 2, 4));
    }

    private static long digestOf(CuckooAudit x, int textLength, int saved) {
        List<Integer> values = new ArrayList<>();
        for (int what = 0; what <= 8; what++) {
            values.add(x.info(what));
        }
        int slots = x.info(1);
        int parts = x.info(0) * slots * 4;
        for (int i = 0; i < parts; i++) {
            values.add(x.slot(i / 4 / slots, i / 4 % slots, i % 4));
        }
        int stashParts = x.info(6) * 4;
        for (int i = 0; i < stashParts; i++) {
            values.add(x.stashed(i / 4, i % 4));
        }
        values.add(x.count());
        for (int i = 0; i < x.count(); i++) {
            values.add(x.present(i));
        }
        values.add(x.falseKeys(0, 999));
        values.add(textLength);
        values.add(saved);
        long h = 1960;
        for (int v : values) {
            h = 31 * h + v;
        }
        return h;
    }

    // ---- helpers

    /** A filter of seed 0 with some keys. */
    private static CuckooAudit full(int bits, int slots, int length, int... keys) {
        CuckooAudit x = new CuckooAudit();
        x.rebuild(bits, slots, length, 0);
        for (int key : keys) {
            x.add(key);
        }
        return x;
    }

    /** A filter with the keys 0 to 119. */
    private static CuckooAudit manyKeys() {
        CuckooAudit x = full(6, 4, 8);
        for (int key = 0; key < 120; key++) {
            x.add(key);
        }
        return x;
    }

    private static void write(CuckooAudit x, String text) {
        for (int i = 0; i < text.length(); i++) {
            x.append(text.charAt(i));
        }
    }

    /** All that can be asked about a state. */
    private static String stateOf(CuckooAudit x) {
        StringBuilder told = new StringBuilder();
        for (int what = 0; what <= 8; what++) {
            told.append(' ').append(x.info(what));
        }
        int slots = x.info(1);
        for (int i = x.info(0) * slots * 4 - 1; i >= 0; i--) {
            told.append(' ').append(x.slot(i / 4 / slots, i / 4 % slots, i % 4));
        }
        for (int i = x.info(6) * 4 - 1; i >= 0; i--) {
            told.append(' ').append(x.stashed(i / 4, i % 4));
        }
        for (int i = 0; i < x.count(); i++) {
            told.append(' ').append(x.present(i));
        }
        return told.toString();
    }

    private static void due(String what, boolean got, boolean want) {
        due(what, got ? 1 : 0, want ? 1 : 0);
    }

    private static void due(String what, long got, long want) {
        asked++;
        if (got != want) {
            wrong++;
            System.out.println("promise " + promise + ": " + what + " answered " + got + ", due is " + want);
        }
    }

    private static void dueSlot(CuckooAudit x, int bucket, int slot, int tag, int length, int print, int side) {
        int[] want = {tag, length, print, side};
        for (int what = 0; what < want.length; what++) {
            due("slot(" + bucket + ", " + slot + ", " + what + ")", x.slot(bucket, slot, what), want[what]);
        }
    }

    /** The call must throw just this kind of exception, and change nothing. */
    private static void throwsDue(String what, Class<?> kind, CuckooAudit x, Call call) {
        asked++;
        long before = x.digest();
        Object thrown = null;
        try {
            call.make();
        } catch (RuntimeException e) {
            thrown = e.getClass();
        }
        if (thrown != kind) {
            wrong++;
            System.out.println("promise " + promise + ": " + what + " threw " + thrown + ", due is " + kind);
        }
        due(what + " changes nothing", x.digest(), before);
    }

    private static void badKeys(CuckooAudit x, KeyCall call) {
        for (int key : BAD_KEYS) {
            throwsDue("key " + key, ARGUMENT, x, () -> call.make(key));
        }
    }

    interface RangeCall {
        int make(int from, int to);
    }

    private static void badRanges(CuckooAudit x, RangeCall call) {
        int[][] bad = {{-1, 5}, {0, 1000}, {6, 5}, {1000, 1000}, {-2, -1}, {Integer.MIN_VALUE, Integer.MAX_VALUE}};
        for (int[] b : bad) {
            throwsDue("from " + b[0] + " to " + b[1], ARGUMENT, x, () -> call.make(b[0], b[1]));
        }
    }
}
