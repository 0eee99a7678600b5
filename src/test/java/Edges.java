import java.io.IOException;
import java.nio.file.Files;
import java.nio.file.Path;
import java.util.ArrayList;
import java.util.Arrays;
import java.util.List;
import java.util.regex.Matcher;
import java.util.regex.Pattern;

/**
 * What the tests of the document's sentences share. Each sentence has a test of its own: edge() names its
 * promise and its words, which must stand in the document, and every answer that is not as due is told with both.
 * No object is asked more than 512 times, since what it answers then is free.
 */
abstract class Edges {
    static final Class<?> ARGUMENT = IllegalArgumentException.class;
    static final Class<?> STATE = IllegalStateException.class;
    static final Class<?> POSITION = IndexOutOfBoundsException.class;
    static final int NONE = -1;
    static final int LOWEST = Integer.MIN_VALUE;
    static final int HIGHEST = Integer.MAX_VALUE;

    // Sentences that hold for several promises.
    static final String KEY_RANGE = "KEYS are the numbers from 0 to 999.";
    static final String KEY_OUT_OF_RANGE = "Throws `IllegalArgumentException` if key is out of range";
    static final String LISTED_FIRST =
            "EXCEPTIONS. If several exceptions apply, the one that is listed first is thrown.";
    static final String NONE_LAST = "NONE is returned only if no exception applies.";

    /** Calls that change an object or think of changes. */
    private static final Question[] NEXT = {x -> x.add(5), x -> x.addShortest(5), x -> x.delete(1), x -> x.grow(),
        x -> x.rebuild(3, 2, 3, 1), x -> x.setLimit(7), x -> x.setLength(7), x -> x.clear(), x -> x.execute(),
        x -> x.walk(5), x -> x.walkStep(5, 0, true), x -> x.leastMoves(5), x -> x.roomFor(0, 9),
        x -> x.blamed(0, 0), x -> x.bestSeed(3), x -> x.leastBits(1, 1), x -> x.couldFit(2, 1, 1)};

    private static final int PROMISES = 37;
    // What only names things: titles, signatures, groups of methods, the face, parameters that have no bounds.
    private static final String NAMES = "(?s:```.*?```)|(?m:^#.*$|^----.*$|^`.*`$|^- `\\w+`: the (first |last )?"
            + "(key|bucket|slot)$|^The constructor and the methods follow.*$)";
    private static final String[] DOCUMENT = sections();
    private static final List<List<String>> TESTED = new ArrayList<>();
    private static int promise;
    private static String words;
    private static int sentences;
    private static int answers;
    private static int wrong;

    interface Test {
        void run();
    }

    interface Maker {
        CuckooAudit make();
    }

    interface Call {
        void on(CuckooAudit x);
    }

    interface Question {
        Object of(CuckooAudit x);
    }

    interface KeyCall {
        void on(CuckooAudit x, int key);
    }

    interface RangeCall {
        void on(CuckooAudit x, int from, int to);
    }

    /** A test of one sentence of the document. */
    static void edge(int itsPromise, String itsWords, Test test) {
        promise = itsPromise;
        words = itsWords;
        sentences++;
        while (TESTED.size() <= PROMISES) {
            TESTED.add(new ArrayList<>());
        }
        TESTED.get(promise).add(itsWords);
        if (DOCUMENT.length > 0 && !DOCUMENT[0].contains(itsWords) && !DOCUMENT[promise].contains(itsWords)) {
            tellWrong("these words do not stand in the document");
        }
        try {
            test.run();
        } catch (RuntimeException e) {
            tellWrong("unexpected " + e + " at " + e.getStackTrace()[0]);
        }
    }

    /** Tells the result; false if an answer was wrong, or a promise or a sentence that must have a test has none. */
    static boolean allHold() {
        for (promise = 1; promise <= PROMISES; promise++) {
            words = "";
            if (TESTED.get(promise).isEmpty()) {
                tellWrong("no sentence is tested");
            }
        }
        for (promise = 0; promise < DOCUMENT.length; promise++) {
            everyWordIsTested();
        }
        System.out.println("EdgesTest: " + sentences + " sentences, " + answers + " answers, " + wrong
                + " are not as due");
        return wrong == 0;
    }

    /** The tests of a promise leave over no word of it, and all tests together none that stands before the promises. */
    private static void everyWordIsTested() {
        String text = DOCUMENT[promise];
        char[] left = text.toCharArray();
        for (int tested = 1; tested <= PROMISES; tested++) {
            if (promise == 0 || promise == tested) {
                TESTED.get(tested).forEach(itsWords -> blankOut(left, text, itsWords));
            }
        }
        Matcher named = Pattern.compile("\\S*\\w.*?(?=  |$)").matcher(new String(left));
        while (named.find()) {
            words = named.group().trim();
            tellWrong("no test of its own");
        }
    }

    private static void blankOut(char[] left, String text, String itsWords) {
        for (int at = text.indexOf(itsWords); at >= 0; at = text.indexOf(itsWords, at + 1)) {
            Arrays.fill(left, at, at + itsWords.length(), ' ');
        }
    }

    /**
     * The document's sentences: what stands before the promises, then those of each promise, with single spaces;
     * nothing if the document is not there, since the answers can be tested without it.
     */
    private static String[] sections() {
        Path document = Path.of("../shared/DOC.md");
        if (!Files.exists(document)) {
            System.out.println("without ../shared/DOC.md the words of the sentences are not looked up");
            return new String[0];
        }
        try {
            String[] parts = Files.readString(document).split("## Promise \\d+: .*|## Not promised.*");
            if (parts.length != PROMISES + 2) {
                throw new IllegalStateException("the document has " + (parts.length - 2) + " promises");
            }
            for (int i = 0; i <= PROMISES; i++) {
                parts[i] = parts[i].replaceAll(NAMES, "").replaceAll("\\s+", " ");
            }
            return Arrays.copyOf(parts, PROMISES + 1);
        } catch (IOException e) {
            throw new IllegalStateException("../shared/DOC.md cannot be read", e);
        }
    }

    private static void tellWrong(String what) {
        wrong++;
        System.out.println("promise " + promise + ", \"" + words + "\": " + what);
    }

    static void due(String what, Object got, Object want) {
        answers++;
        if (!got.equals(want)) {
            tellWrong(what + " answered " + got + ", due is " + want);
        }
    }

    /** Tag, length, fingerprint and side in a slot. */
    static void dueSlot(CuckooAudit x, int bucket, int slot, int tag, int length, int print, int side) {
        String got = x.slot(bucket, slot, 0) + " " + x.slot(bucket, slot, 1) + " " + x.slot(bucket, slot, 2) + " "
                + x.slot(bucket, slot, 3);
        due("slot " + slot + " of bucket " + bucket, got, tag + " " + length + " " + print + " " + side);
    }

    /** The call must throw just this exception, and leave the object as if it had not been made. */
    static void refused(String what, Class<?> kind, Maker maker, Call call) {
        CuckooAudit x = maker.make();
        Object thrown = "nothing";
        try {
            call.on(x);
        } catch (RuntimeException e) {
            thrown = e.getClass();
        }
        due(what + " throws", thrown, kind);
        due("all that is left behind " + what, allOf(x), allOf(maker.make()));
    }

    /** The call must answer, and leave the object as if it had not been made, for each call that comes behind it. */
    static void changesNothing(String what, Maker maker, Call call) {
        CuckooAudit x = maker.make();
        call.on(x);
        due("all that is left behind " + what, allOf(x), allOf(maker.make()));
        for (int i = 0; i < NEXT.length; i++) {
            CuckooAudit y = maker.make();
            call.on(y);
            due("the next call (" + i + ") behind " + what, answerOf(y, NEXT[i]), answerOf(maker.make(), NEXT[i]));
        }
    }

    /** What the call answers or throws, and all that it leaves. */
    private static String answerOf(CuckooAudit x, Question call) {
        String answer;
        try {
            answer = String.valueOf(call.of(x));
        } catch (IllegalStateException e) {
            answer = "IllegalStateException";
        }
        return answer + ", " + allOf(x);
    }

    static void refusedEverywhere(String what, Class<?> kind, Call call) {
        refused(what + " of a new object", kind, CuckooAudit::new, call);
        refused(what + " with keys, a stash, a text and saved states", kind, Edges::busy, call);
        refused(what + " with 120 keys", kind, Edges::crowd, call);
    }

    static void refusesOtherKeys(KeyCall call) {
        for (int key : new int[] {-1, 1000, LOWEST, HIGHEST}) {
            refusedEverywhere("key " + key, ARGUMENT, x -> call.on(x, key));
        }
    }

    static void refusesOtherRanges(RangeCall call) {
        int[][] bad = {{-1, 0}, {-1, -1}, {0, 1000}, {1000, 1000}, {1, 0}, {999, 998}, {999, 0}, {0, -1},
            {LOWEST, HIGHEST}, {HIGHEST, LOWEST}, {0, HIGHEST}, {LOWEST, 0}};
        for (int[] b : bad) {
            refusedEverywhere("from " + b[0] + " to " + b[1], ARGUMENT, x -> call.on(x, b[0], b[1]));
        }
    }

    static void refusesOtherNumbers(int least, int most, KeyCall call) {
        for (int number : new int[] {least - 1, most + 1, LOWEST, HIGHEST}) {
            refusedEverywhere("the number " + number, ARGUMENT, x -> call.on(x, number));
        }
    }

    /** What an object answers to the end: it is undone as far as it goes, then its text is executed and emptied. */
    static String allOf(CuckooAudit x) {
        StringBuilder told = new StringBuilder();
        told.append(x.digest());
        try {
            for (int i = 0; i < 6; i++) {
                told.append(", undo ").append(x.undo()).append(' ').append(x.digest());
            }
        } catch (IllegalStateException e) {
            told.append("none");
        }
        told.append(", execute ").append(x.execute()).append(' ').append(x.digest());
        return told.append(", clearText ").append(x.clearText()).toString();
    }

    /** Each bucket's slots as tags, with ' for side 1 and - for an empty slot; then the stash as tags and homes. */
    static String layout(CuckooAudit x) {
        StringBuilder told = new StringBuilder();
        for (int bucket = 0; bucket < x.info(0); bucket++) {
            told.append(bucket == 0 ? "" : " ");
            for (int slot = 0; slot < x.info(1); slot++) {
                int tag = x.slot(bucket, slot, 0);
                told.append(slot == 0 ? "" : "/").append(tag == NONE ? "-" : String.valueOf(tag));
                told.append(x.slot(bucket, slot, 3) == 1 ? "'" : "");
            }
        }
        for (int i = 0; i < x.info(6); i++) {
            told.append(" +").append(x.stashed(i, 0)).append('@').append(x.stashed(i, 3));
        }
        return told.toString();
    }

    /** What info() tells for 0 to 4: the numbers of the filter. */
    static String numbersOf(CuckooAudit x) {
        return x.info(0) + " " + x.info(1) + " " + x.info(2) + " " + x.info(3) + " " + x.info(4);
    }

    /** What stashed() tells for 0 to 3. */
    static String stashedAt(CuckooAudit x, int index) {
        return x.stashed(index, 0) + " " + x.stashed(index, 1) + " " + x.stashed(index, 2) + " " + x.stashed(index, 3);
    }

    static String keysOf(CuckooAudit x) {
        StringBuilder told = new StringBuilder();
        for (int i = 0; i < x.count(); i++) {
            told.append(i == 0 ? "" : " ").append(x.present(i));
        }
        return told.toString();
    }

    /** A filter of seed 0 with keys that were added in this order. */
    static CuckooAudit with(int bits, int slots, int length, int... keys) {
        CuckooAudit x = new CuckooAudit();
        x.rebuild(bits, slots, length, 0);
        for (int key : keys) {
            x.add(key);
        }
        return x;
    }

    /** The same without walks, so that what finds no room comes to the stash. */
    static CuckooAudit withoutWalks(int bits, int slots, int length, int... keys) {
        CuckooAudit x = with(bits, slots, length);
        x.setLimit(0);
        for (int key : keys) {
            x.add(key);
        }
        return x;
    }

    /** A filter of seed 0, to which the keys were added by one text, so that two states are saved. */
    static CuckooAudit inOneText(int bits, int slots, int length, int... keys) {
        CuckooAudit x = with(bits, slots, length);
        for (int key : keys) {
            write(x, "+" + key + ";");
        }
        x.execute();
        x.clearText();
        return x;
    }

    static CuckooAudit without(CuckooAudit x, int... keys) {
        for (int key : keys) {
            x.delete(key);
        }
        return x;
    }

    static void dueLayout(CuckooAudit x, String want) {
        due("the layout", layout(x), want);
    }

    /** Two keys in slots and two in the stash, of several lengths; a text; four saved states. */
    static CuckooAudit busy() {
        CuckooAudit x = withoutWalks(1, 1, 6, 1, 2, 3);
        x.setLength(3);
        x.add(4);
        write(x, "-2;*;+007;");
        return x;
    }

    /** The keys 0 to 119 in 256 slots; a text; four saved states. */
    static CuckooAudit crowd() {
        CuckooAudit x = with(6, 4, 8);
        for (int key = 0; key < 120; key++) {
            x.add(key);
        }
        write(x, "-119;+0;");
        return x;
    }

    static void write(CuckooAudit x, String text) {
        for (int i = 0; i < text.length(); i++) {
            x.append(text.charAt(i));
        }
    }

    static CuckooAudit withText(String text) {
        CuckooAudit x = new CuckooAudit();
        write(x, text);
        return x;
    }

    // The document's formulas once more, for tests that go through many keys.

    static int codeOf(int key, int seed) {
        long v = (key * 48271L + seed * 7919L + 12345L) % 1048576L;
        v = v ^ (v / 512L);
        v = (v * 7621L + 1L) % 1048576L;
        return (int) (v ^ (v / 2048L));
    }

    static int tagOf(int key, int seed) {
        return codeOf(key, seed) / 16384;
    }

    static int bodyOf(int key, int seed) {
        return codeOf(key, seed) % 16384;
    }

    static int homeOf(int key, int bits, int seed) {
        return bodyOf(key, seed) % (1 << bits);
    }

    static int otherOf(int key, int bits, int seed) {
        int step = (37 * tagOf(key, seed) + 11) % 64;
        return homeOf(key, bits, seed) ^ ((step % 2 == 0 ? step + 1 : step) % (1 << bits));
    }
}
