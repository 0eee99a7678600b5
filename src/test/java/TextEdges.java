/** The sentences of promises 33 to 37: texts, commands, undo and the digest. */
final class TextEdges extends Edges {
    private static final String POSITION_OF_ERROR = "The syntax error position of the text is the index of the first"
            + " byte that cannot stand where it stands (also of a fourth digit), or the length of the text if it ends"
            + " too early.";

    static void all() {
        append();
        clearText();
        numbers();
        syntaxByBytes();
        syntaxAtEnds();
        commands();
        failingCommands();
        undoSaves();
        undoKeepsFour();
        undoRestores();
        exceptionsSaveNothing();
        digest();
        digestOfParts();
    }

    // ---- append, clearText

    private static void append() {
        edge(33, "Appends a byte to the text. - `value`: the byte, 0 to 127", () -> {
            due("0", new CuckooAudit().append(0), 1);
            due("127", new CuckooAudit().append(127), 1);
            due("the byte 0 is an error", withText("\0").execute(), -10);
            due("the byte 127 is an error", withText("+1;\u007f").execute(), -13);
        });
        edge(33, "Throws `IllegalArgumentException` if value is out of range", () -> {
            refusesOtherNumbers(0, 127, (x, value) -> x.append(value));
            refusedEverywhere("a sign and 256", ARGUMENT, x -> x.append('+' + 256));
        });
        edge(33, "TEXTS. There is a text of at most 100 bytes, initially empty.", () -> {
            CuckooAudit x = new CuckooAudit();
            for (int length = 1; length <= 100; length++) {
                due("append", x.append('*'), length);
            }
            due("clearText", x.clearText(), 100);
            due("append behind it", x.append('*'), 1);
        });
        edge(33, "Throws `IllegalStateException` if the text has 100 bytes", () -> {
            refused("the byte 101", STATE, () -> withText("*;".repeat(50)), x -> x.append('*'));
            due("the byte 100", withText("*".repeat(99)).append('*'), 100);
        });
        edge(33, LISTED_FIRST, () -> {
            refused("a wrong byte and 100 bytes", ARGUMENT, () -> withText("*;".repeat(50)), x -> x.append(128));
            refused("a wrong byte and 100 bytes", ARGUMENT, () -> withText("*;".repeat(50)), x -> x.append(-1));
        });
        edge(33, "Returns the length of the text afterwards.", () -> {
            CuckooAudit x = busy();
            due("behind ten bytes", x.append('+'), 11);
            due("undo is not asked", x.undo() + " " + x.append('0'), "3 12");
        });
    }

    private static void clearText() {
        edge(34, "Returns the length that it had.", () -> {
            due("an empty text", new CuckooAudit().clearText(), 0);
            due("one byte", withText("+").clearText(), 1);
            due("100 bytes", withText("*".repeat(100)).clearText(), 100);
            CuckooAudit x = withText("+");
            x.clearText();
            due("again", x.clearText(), 0);
        });
        edge(34, "Empties the text.", () -> {
            CuckooAudit x = withText("+1;x");
            x.clearText();
            due("execute", x.execute(), 0);
            due("no key is added", x.count(), 0);
            CuckooAudit y = withText("+123;");
            y.clearText();
            write(y, "+4;");
            due("a shorter text", y.execute() + " " + keysOf(y), "1 4");
        });
    }

    // ---- the syntax of a text

    private static void numbers() {
        edge(35, "A number has 1 to 3 digits, perhaps with leading zeros.", () -> {
            due("one digit", withText("+0;").execute(), 1);
            due("two digits", executed("+10;+09;"), "2: 10 9");
            due("three digits", executed("+999;+100;"), "2: 999 100");
            due("leading zeros", executed("+000;+01;+002;+030;"), "4: 0 1 2 30");
            due("the same key with and without zeros", withText("+7;+007;").execute(), -1001);
            due("deleted with zeros", executed("+7;+8;-007;"), "3: 8");
            due("no digit", withText("+;").execute(), -11);
            due("no digit", withText("-;").execute(), -11);
            due("four digits", withText("+0001;").execute(), -14);
            due("four digits", withText("-1000;").execute(), -14);
        });
        edge(35, "As commands it is a sequence of commands, perhaps empty, without spaces", () -> {
            due("an empty text", new CuckooAudit().execute(), 0);
            due("a space before", withText(" +1;").execute(), -10);
            due("a space behind", withText("+1; ").execute(), -13);
            due("a space before the number", withText("+ 1;").execute(), -11);
            due("a space behind the number", withText("+1 ;").execute(), -12);
            due("a space in a number", withText("+1 2;").execute(), -12);
            due("a space behind *", withText("* ;").execute(), -11);
        });
    }

    private static String executed(String text) {
        CuckooAudit x = withText(text);
        return x.execute() + ": " + keysOf(x);
    }

    /** Every byte behind every beginning of a command; what is due is known from the bytes that may stand there. */
    private static void syntaxByBytes() {
        String[] beginnings = {"", "+", "-", "+5", "-5", "+55", "+055", "-055", "*"};
        String digit = "0123456789";
        String[] mayStand = {"+-*", digit, digit, digit + ";", digit + ";", digit + ";", ";", ";", ";"};
        String[] befores = {"", "*;", "+1;-001;"};
        edge(35, "is the index of the first byte that cannot stand where it stands (also of a fourth digit)", () -> {
            for (String before : befores) {
                for (int i = 0; i < beginnings.length; i++) {
                    String text = before + beginnings[i];
                    for (char value = 0; value < 128; value++) {
                        if (mayStand[i].indexOf(value) < 0) {
                            String what = text + " and the byte " + (int) value;
                            due(what, withText(text + value).execute(), -10 - text.length());
                            due(what + " and more", withText(text + value + ";+1").execute(), -10 - text.length());
                        }
                    }
                }
            }
        });
        edge(35, "or the length of the text if it ends too early.", () -> {
            for (String before : befores) {
                for (int i = 0; i < beginnings.length; i++) {
                    String text = before + beginnings[i];
                    if (i > 0) {
                        due(text, withText(text).execute(), -10 - text.length());
                    }
                    for (char value : mayStand[i].toCharArray()) {
                        if (value != ';') {
                            due(text + value, withText(text + value).execute(), -10 - text.length() - 1);
                        }
                    }
                }
            }
        });
    }

    private static void syntaxAtEnds() {
        edge(35, POSITION_OF_ERROR, () -> {
            due("the first byte", withText("x").execute(), -10);
            due("the byte 100", withText("+5;".repeat(33) + "5").execute(), -109);
            due("100 bytes that end too early", withText("+5;".repeat(33) + "+").execute(), -110);
            due("the first of two errors", withText("+1;;x").execute(), -13);
            due("an error behind a fourth digit", withText("+12345x").execute(), -14);
        });
        edge(35, "-10 minus the syntax error position if there is a syntax error", () -> {
            due("an error behind a command that would throw", withText("-1;x").execute(), -13);
            due("an early end behind a command that would throw", withText("-1;+").execute(), -14);
            changesNothing("execute with an error", () -> withText("+1;+2;*;x"), x -> x.execute());
            changesNothing("execute with an early end", () -> withText("+1;+2;*"), x -> x.execute());
            due("no state is saved", savedBehind("+1;x"), "nothing");
        });
    }

    /** The number of states that are saved behind execute(), by what undo() says. */
    private static String savedBehind(String text) {
        CuckooAudit x = withText(text);
        x.execute();
        try {
            return String.valueOf(x.undo() + 1);
        } catch (IllegalStateException e) {
            return "nothing";
        }
    }

    // ---- commands

    private static void commands() {
        edge(35, "\"+\" number \";\" like add(), \"-\" number \";\" like delete(), \"*;\" like grow().", () -> {
            likeTheMethod("+000;", CuckooAudit::new, x -> x.add(0));
            likeTheMethod("+999;", CuckooAudit::new, x -> x.add(999));
            likeTheMethod("+17;", () -> with(2, 1, 5, 5, 2, 7), x -> x.add(17));
            likeTheMethod("+09;", () -> with(2, 1, 5, 1, 2), x -> x.add(9));
            likeTheMethod("-2;", () -> with(1, 1, 5, 1, 2, 3, 4, 5), x -> x.delete(2));
            likeTheMethod("-005;", () -> with(1, 1, 5, 1, 2, 3, 4, 5), x -> x.delete(5));
            likeTheMethod("*;", CuckooAudit::new, x -> x.grow());
            likeTheMethod("*;", () -> with(1, 1, 5, 1, 2, 3, 4, 5), x -> x.grow());
        });
        edge(35, "Returns the number of commands", () -> {
            due("none", new CuckooAudit().execute(), 0);
            due("33 commands, 99 bytes", withText("+0;-0;".repeat(16) + "+0;").execute(), 33);
            due("one of each", executed("+1;*;-1;"), "3: ");
            due("three commands", executed("+123;+45;-123;"), "3: 45");
        });
        edge(35, "Executes the text as commands, one after the other, each one like the method.", () -> {
            CuckooAudit x = with(2, 1, 5);
            CuckooAudit y = with(2, 1, 5);
            write(x, "+5;+2;+7;+17;+1;+9;-17;*;");
            due("execute", x.execute(), 8);
            due("add with a walk", y.add(5) + y.add(2) + y.add(7) + y.add(17), 3);
            due("add to the stash", y.add(1) + " " + y.add(9), "100 100");
            y.delete(17);
            y.grow();
            due("the layout", layout(x), layout(y));
            due("the keys", keysOf(x), keysOf(y));
        });
        edge(35, "The text stays.", () -> {
            CuckooAudit x = withText("+1;");
            x.execute();
            due("again", x.execute(), -1000);
            due("its length", x.clearText(), 3);
            CuckooAudit y = withText("+1;x");
            y.execute();
            due("with an error", y.clearText(), 4);
            CuckooAudit z = withText("*;");
            due("as often as it can be", z.execute() + z.execute() + z.execute() + z.execute(), 4);
            due("the buckets", z.info(0), 64);
        });
        edge(35, "Undoable if all commands are executed (one saved state for all of them, also if there are none).",
                () -> {
            due("of none", savedBehind(""), "1");
            due("of one", savedBehind("+1;"), "1");
            due("of six", savedBehind("+1;+2;+3;-1;*;-2;"), "1");
            CuckooAudit x = with(2, 1, 5, 5, 2);
            write(x, "+7;+17;*;-5;");
            x.execute();
            x.undo();
            CuckooAudit y = with(2, 1, 5, 5, 2);
            write(y, "+7;+17;*;-5;");
            due("all is undone", allOf(x), allOf(y));
        });
    }

    private static void likeTheMethod(String command, Maker maker, Call call) {
        CuckooAudit x = maker.make();
        write(x, command);
        due(command, x.execute(), 1);
        x.clearText();
        CuckooAudit y = maker.make();
        call.on(y);
        due("all behind " + command, allOf(x), allOf(y));
    }

    private static void failingCommands() {
        edge(35, "-1000 minus the index of the first command (from 0) that would throw an exception behind those"
                + " before it.", () -> {
            due("the first one", withText("-1;+1;").execute(), -1000);
            due("the second one", withText("+1;+1;").execute(), -1001);
            due("one that would not throw alone", withText("+1;-1;-1;+1;").execute(), -1002);
            due("the 33rd one", withText("+0;-0;".repeat(16) + "-0;").execute(), -1032);
            due("doubling 64 buckets", withText("*;".repeat(50)).execute(), -1004);
            due("adding without room", execute(with(1, 1, 5, 1, 2, 3), "+4;+5;+6;"), -1002);
            due("adding behind a deletion", execute(with(1, 1, 5, 1, 2, 3, 4, 5), "-5;+6;"), 2);
            due("adding to 120 keys", execute(empty(crowd()), "+120;"), -1000);
            due("adding to 119 keys", execute(empty(crowd()), "-119;+120;"), 2);
            due("doubling length 0", execute(with(1, 1, 1, 0), "*;*;"), -1001);
            due("deleting a false key", execute(with(2, 2, 5, 365), "-684;"), -1000);
        });
        edge(35, "If one of them would throw an exception, nothing changes at all.", () -> {
            changesNothing("the first one", () -> withText("-1;+1;"), x -> x.execute());
            changesNothing("the last one", () -> withText("+1;+2;*;-1;-1;"), x -> x.execute());
            changesNothing("the last one of many", () -> withText("+0;-0;".repeat(16) + "-0;"), x -> x.execute());
            changesNothing("one of a filter with a stash", TextEdges::failingBusy, x -> x.execute());
            due("no state is saved", savedBehind("+1;+1;"), "nothing");
        });
    }

    private static CuckooAudit empty(CuckooAudit x) {
        x.clearText();
        return x;
    }

    private static int execute(CuckooAudit x, String text) {
        write(x, text);
        return x.execute();
    }

    private static CuckooAudit failingBusy() {
        CuckooAudit x = empty(busy());
        write(x, "-1;+5;+6;*;+1;+2;");
        return x;
    }

    // ---- undo

    private static void undoSaves() {
        edge(36, "Throws `IllegalStateException` if no state is saved", () -> {
            refused("undo of a new object", STATE, CuckooAudit::new, CuckooAudit::undo);
            refused("undo with a text alone", STATE, () -> withText("+1;"), CuckooAudit::undo);
            refused("undo of a fifth call", STATE, TextEdges::undoneToTheEnd, CuckooAudit::undo);
        });
        edge(36, "UNDO. Each successful call of a method that is described as undoable saves the state before the call,"
                + " even if nothing changes.", () -> {
            CuckooAudit x = new CuckooAudit();
            x.clear();
            x.setLimit(10);
            x.setLength(5);
            x.execute();
            due("four of them", x.undo() + " " + x.undo() + " " + x.undo() + " " + x.undo(), "3 2 1 0");
            x.rebuild(2, 2, 5, 0);
            due("the same numbers", x.undo(), 0);
        });
        edge(36, "Each successful call of a method that is described as undoable", () -> {
            CuckooAudit x = with(2, 2, 5);
            x.tag(1);
            x.found(1);
            x.append('*');
            x.clearText();
            x.walk(1);
            x.walkStep(1, 0, true);
            x.leastMoves(1);
            x.roomFor(0, 99);
            x.blamed(0, 0);
            x.bestSeed(1);
            x.leastBits(1, 1);
            x.couldFit(1, 1, 1);
            x.digest();
            due("the others save nothing", x.undo(), 0);
        });
    }

    private static CuckooAudit undoneToTheEnd() {
        CuckooAudit x = with(3, 4, 5, 1, 2, 3, 4);
        for (int i = 0; i < 4; i++) {
            x.undo();
        }
        return x;
    }

    private static void undoKeepsFour() {
        edge(36, "At most 4 states are kept; when one more is saved, the oldest one is dropped", () -> {
            CuckooAudit four = new CuckooAudit();
            CuckooAudit five = new CuckooAudit();
            for (int i = 0; i < 4; i++) {
                four.setLimit(20 + i);
                five.setLimit(20 + i);
            }
            five.setLimit(30);
            due("four", limits(four), "23 3:22 2:21 1:20 0:10");
            due("five", limits(five), "30 3:23 2:22 1:21 0:20");
            CuckooAudit many = new CuckooAudit();
            for (int i = 0; i < 50; i++) {
                many.setLimit(i);
            }
            due("fifty", limits(many), "49 3:48 2:47 1:46 0:45");
        });
        edge(36, "undo() restores the latest one and removes it.", () -> {
            CuckooAudit x = new CuckooAudit();
            x.setLimit(1);
            x.setLimit(2);
            x.setLimit(3);
            x.undo();
            x.setLimit(4);
            due("a call behind undo", limits(x), "4 2:2 1:1 0:10");
        });
        edge(36, "Returns the number of states that are still saved.", () -> {
            CuckooAudit x = with(2, 2, 5, 1, 2, 3, 4);
            due("four", x.undo() + " " + x.undo() + " " + x.undo() + " " + x.undo(), "3 2 1 0");
            x.add(9);
            due("one again", x.undo(), 0);
        });
    }

    /** The limit, then what each undo() answers, and the limit behind it. */
    private static String limits(CuckooAudit x) {
        StringBuilder told = new StringBuilder();
        told.append(x.info(4));
        try {
            for (int i = 0; i < 6; i++) {
                int saved = x.undo();
                told.append(' ').append(saved).append(':').append(x.info(4));
            }
        } catch (IllegalStateException e) {
            return told.toString();
        }
        return told.append(" and more").toString();
    }

    private static void undoRestores() {
        edge(36, "The state consists of everything except the text.", () -> {
            CuckooAudit x = withoutWalks(1, 1, 6, 1, 2, 3);
            String before = layout(x) + " " + numbersOf(x) + " " + keysOf(x);
            x.rebuild(3, 4, 2, 77);
            x.setLimit(50);
            x.setLength(8);
            x.clear();
            write(x, "+1;");
            x.undo();
            x.append('*');
            x.undo();
            x.undo();
            x.undo();
            due("numbers, slots, stash and keys", layout(x) + " " + numbersOf(x) + " " + keysOf(x), before);
            due("the text", x.clearText(), 4);
        });
        edge(36, "Restores the state that was saved last and removes it from the saved ones.", () -> {
            CuckooAudit x = with(2, 2, 5, 1);
            x.add(2);
            x.undo();
            x.add(9);
            x.undo();
            due("like a new object with the same calls", allOf(x), allOf(with(2, 2, 5, 1)));
        });
    }

    /** Calls that fail behind much work, with two and with four saved states. */
    private static void exceptionsSaveNothing() {
        edge(36, "A call that throws an exception changes nothing.", () -> {
            Maker full = () -> inOneText(1, 1, 5, 1, 2, 3, 4, 5);
            Maker fullOfFour = () -> with(1, 1, 5, 1, 2, 3, 4, 5);
            for (Maker maker : new Maker[] {full, fullOfFour}) {
                refused("add", STATE, maker, x -> x.add(6));
                refused("addShortest", STATE, maker, x -> x.addShortest(6));
                refused("delete", STATE, maker, x -> x.delete(6));
                refused("rebuild", ARGUMENT, maker, x -> x.rebuild(2, 2, 2, 100));
                refused("setLimit", ARGUMENT, maker, x -> x.setLimit(51));
                refused("setLength", ARGUMENT, maker, x -> x.setLength(9));
            }
            refused("rebuild", STATE, () -> inOneText(2, 4, 5, 1, 2, 3, 4, 5, 6), x -> x.rebuild(1, 1, 5, 7));
            refused("rebuild", STATE, Edges::crowd, x -> x.rebuild(1, 1, 5, 7));
            refused("grow", STATE, TextEdges::grownToTheEnd, CuckooAudit::grow);
        });
    }

    private static CuckooAudit grownToTheEnd() {
        CuckooAudit x = with(1, 1, 2, 0);
        x.grow();
        x.grow();
        due("the length", x.info(7), 0);
        return x;
    }

    // ---- digest

    private static void digest() {
        edge(37, "Returns a hash of the state. Start with h = 1960 and, for each of the following values v, set h ="
                + " 31 * h + v", () -> {
            due("a new object", new CuckooAudit().digest(), digestOf(new CuckooAudit(), 0, 0));
            due("a new object", new CuckooAudit().digest(), -5599141824529239349L);
        });
        edge(37, "info() for what = 0 to 8", () -> {
            CuckooAudit x = new CuckooAudit();
            x.rebuild(1, 1, 1, 0);
            due("other numbers", x.digest(), digestOf(x, 0, 1));
            x.rebuild(1, 1, 8, 99);
            x.setLimit(50);
            due("the highest seed, length and limit", x.digest(), digestOf(x, 0, 3));
            CuckooAudit y = with(6, 1, 8);
            due("64 buckets, which cannot be doubled", y.digest(), digestOf(y, 0, 1));
        });
        edge(37, "for each bucket, and in it for each slot, the values of slot() for what = 0 to 3 (four times NONE if"
                + " it is empty)", () -> {
            due("one slot of four in use", with(1, 2, 5, 1).digest(), digestOf(with(1, 2, 5, 1), 0, 2));
            due("all slots", with(1, 1, 5, 1, 2).digest(), digestOf(with(1, 1, 5, 1, 2), 0, 3));
            due("an entry whose numbers are all 0", allZero().digest(), digestOf(allZero(), 0, 3));
            due("32 slots", with(3, 4, 8, 505, 0, 999).digest(), digestOf(with(3, 4, 8, 505, 0, 999), 0, 4));
            due("256 slots", with(6, 4, 8, 505, 0, 999).digest() != with(6, 4, 8, 505, 0, 998).digest(), true);
        });
        edge(37, "for each entry of the stash those of stashed() for what = 0 to 3", () -> {
            due("one", with(1, 1, 5, 1, 2, 3).digest(), digestOf(with(1, 1, 5, 1, 2, 3), 0, 4));
            due("three", with(1, 1, 5, 1, 2, 3, 4, 5).digest(), digestOf(with(1, 1, 5, 1, 2, 3, 4, 5), 0, 4));
        });
        edge(37, "Returns the hash, with the overflow of long arithmetic ignored.", () -> {
            long h = digestOf(busy(), 10, 4);
            due("much", busy().digest(), h);
        });
    }

    private static void digestOfParts() {
        edge(37, KEY_RANGE, () -> {
            // With the seed 5 the entries of 97 and 165 would find -1 and 1000, if these were keys.
            CuckooAudit x = new CuckooAudit();
            x.rebuild(1, 4, 1, 5);
            x.add(97);
            x.add(165);
            due("seven false keys", x.falseKeys(0, 999), 7);
            due("the digest", x.digest(), digestOf(x, 0, 3));
        });
        edge(37, "count(), and the present keys in their order", () -> {
            CuckooAudit x = with(1, 2, 5, 1, 2);
            CuckooAudit y = with(1, 2, 5, 2, 1);
            due("two orders", x.digest() == y.digest(), false);
            due("1 and 2", x.digest(), digestOf(x, 0, 3));
            due("2 and 1", y.digest(), digestOf(y, 0, 3));
        });
        edge(37, "the number of all false keys", () -> {
            CuckooAudit x = with(1, 4, 1, 36, 13, 381);
            due("eleven", x.digest(), digestOf(x, 0, 4));
        });
        edge(37, "the length of the text; the number of saved states.", () -> {
            long none = new CuckooAudit().digest();
            due("100 bytes", withText("x".repeat(100)).digest(), none + 100 * 31);
            for (int saved = 1; saved <= 5; saved++) {
                CuckooAudit x = new CuckooAudit();
                for (int i = 0; i < saved; i++) {
                    x.setLimit(10);
                }
                due("behind " + saved + " calls", x.digest(), none + Math.min(saved, 4));
            }
        });
    }

    private static CuckooAudit allZero() {
        CuckooAudit x = with(1, 1, 1, 142);
        x.grow();
        return x;
    }

    /** What the digest must be, by what the other methods answer. */
    private static long digestOf(CuckooAudit x, int textLength, int saved) {
        long h = 1960;
        for (int what = 0; what <= 8; what++) {
            h = 31 * h + x.info(what);
        }
        for (int bucket = 0; bucket < x.info(0); bucket++) {
            for (int slot = 0; slot < x.info(1); slot++) {
                for (int what = 0; what <= 3; what++) {
                    h = 31 * h + x.slot(bucket, slot, what);
                }
            }
        }
        for (int i = 0; i < x.info(6); i++) {
            for (int what = 0; what <= 3; what++) {
                h = 31 * h + x.stashed(i, what);
            }
        }
        h = 31 * h + x.count();
        for (int i = 0; i < x.count(); i++) {
            h = 31 * h + x.present(i);
        }
        h = 31 * h + x.falseKeys(0, 999);
        return 31 * (31 * h + textLength) + saved;
    }
}
