import java.lang.reflect.InvocationTargetException;
import java.lang.reflect.Method;
import java.util.ArrayList;
import java.util.List;
import java.util.TreeMap;

/**
 * Long runs of calls, each made on the program and on the model, must have the same answers and the same
 * exceptions. The runs are always the same: the numbers come from a fixed sequence.
 */
public final class AgainstModelTest {
    private static final int RUNS = 400;
    private static final int CALLS = 512;

    private static final int[] WILD = {-1, 1000, 4, 64, 100, 120, 128, 21, 51, Integer.MIN_VALUE, Integer.MAX_VALUE};

    private static final String[] CHANGES = {
        "add", "add", "add", "add", "add", "add", "add", "addShortest", "addShortest", "addShortest",
        "delete", "delete", "delete", "grow", "rebuild", "setLimit", "setLength", "undo", "append"};
    private static final String[] QUESTIONS = {
        "tag", "body", "bucket", "found", "place", "present", "count", "info", "slot", "stashed", "filled",
        "walk", "walkStep", "leastMoves", "roomFor", "falseKeys", "falseKey", "blamed", "twins", "bestSeed",
        "leastBits", "couldFit", "rateBits", "digest"};

    private static long sequence;
    private static int wrong;
    private static final TreeMap<String, int[]> METHODS_SEEN = new TreeMap<>();

    private final int number;
    private final CuckooAudit program = new CuckooAudit();
    private final Model model = new Model();
    private final StringBuilder told = new StringBuilder();
    // What makes the runs differ: how many keys there are, and how often the filter is made new or larger.
    private final int keys;
    private final int rareChanges;
    private int calls;
    private boolean failed;

    private AgainstModelTest(int number) {
        this.number = number;
        keys = new int[] {6, 15, 40, 130, 250, 1000}[number % 6];
        rareChanges = number % 4;
    }

    public static void main(String[] args) throws Exception {
        for (int run = 1; run <= RUNS; run++) {
            sequence = 77777L * run;
            new AgainstModelTest(run).run();
        }
        for (Method m : Model.class.getDeclaredMethods()) {
            int[] seen = METHODS_SEEN.get(m.getName());
            boolean isFace = java.lang.reflect.Modifier.isPublic(m.getModifiers());
            if (isFace && (seen == null || seen[0] == 0)) {
                wrong++;
                System.out.println(m.getName() + " was never answered");
            }
        }
        System.out.println("AgainstModelTest: " + RUNS + " runs, " + wrong + " answers are not as due");
        if (wrong != 0) {
            System.exit(1);
        }
    }

    private static int below(int n) {
        sequence = sequence * 6364136223846793005L + 1442695040888963407L;
        return (int) ((sequence >>> 33) % n);
    }

    private void run() throws Exception {
        int bits = 1 + below(keys < 100 ? 3 : 6);
        call("rebuild", bits, 1 + below(4), 1 + below(8), below(100));
        for (int adds = below(3) == 0 ? 20 + below(150) : 0; adds > 0; adds--) {
            call("add", below(keys));
        }
        while (calls < CALLS && !failed) {
            if (below(100) < 4) {
                text();
            } else if (below(100) < 60) {
                change(CHANGES[below(CHANGES.length)]);
            } else {
                question(QUESTIONS[below(QUESTIONS.length)]);
            }
        }
    }

    private void change(String name) throws Exception {
        boolean rare = name.equals("grow") || name.equals("rebuild") || name.equals("undo");
        if (rare && below(8) < rareChanges * 2) {
            return;
        }
        switch (name) {
            case "delete" -> call(name, below(4) > 0 ? presentKey() : key());
            case "grow" -> call(name);
            case "rebuild" -> call(name, few(1, 6), few(1, 4), few(1, 8), few(0, 99));
            case "setLimit" -> call(name, below(3) == 0 ? few(0, 3) : few(0, 50));
            case "setLength" -> call(name, few(1, 8));
            case "undo" -> undoOrClear();
            case "append" -> call(name, below(30) == 0 ? few(0, 127) : "+-*;0123456789 /:".charAt(below(17)));
            default -> call(name, key());
        }
        if (below(12) == 0) {
            call("digest");
        }
    }

    private void undoOrClear() throws Exception {
        if (below(15) == 0) {
            call("clear");
        }
        for (int i = 1 + below(3); i > 0; i--) {
            call("undo");
        }
    }

    private void question(String name) throws Exception {
        switch (name) {
            case "tag", "body", "found", "place", "walk", "leastMoves" -> call(name, key());
            case "bucket" -> call(name, key(), below(2) == 0);
            case "present" -> call(name, few(0, Math.max(0, model.count())));
            case "info" -> call(name, few(0, 8));
            case "slot" -> call(name, few(0, model.info(0) - 1), few(0, model.info(1) - 1), few(0, 3));
            case "stashed" -> call(name, few(0, 2), few(0, 3));
            case "filled" -> call(name, few(0, 4));
            case "walkStep" -> call(name, key(), below(3) == 0 ? few(0, 50) : few(0, 4), below(2) == 0);
            case "roomFor", "falseKeys" -> range(name);
            case "falseKey" -> call(name, below(4) == 0 ? few(0, 999) : few(0, 5));
            case "blamed" -> call(name, few(0, model.info(0) - 1), few(0, model.info(1) - 1));
            case "bestSeed" -> call(name, below(6) > 0 ? few(1, 4) : few(1, 20));
            case "leastBits" -> call(name, few(1, 4), few(1, 8));
            case "couldFit" -> call(name, few(1, 6), few(1, 4), few(0, 99));
            default -> call(name);
        }
    }

    private void range(String name) throws Exception {
        int from = below(6) == 0 ? wildKey() : below(1000);
        int to = below(6) == 0 ? wildKey() : below(5) == 0 ? from : from + below(Math.max(1, 1000 - from));
        call(name, from, to);
    }

    private int wildKey() {
        return below(2) == 0 ? below(1000) : new int[] {0, 999, -1, 1000}[below(4)];
    }

    /** A whole text of commands, now and then with a slip in it, then its execution. */
    private void text() throws Exception {
        call("clearText");
        StringBuilder commands = new StringBuilder();
        int number = below(10);
        for (int i = 0; i < number; i++) {
            int kind = below(20);
            int key = kind < 12 ? below(keys) : presentKey();
            String digits = below(3) == 0 ? String.format("%03d", key) : String.valueOf(key);
            commands.append(kind == 19 ? "*;" : (kind < 12 ? "+" : "-") + digits + ";");
        }
        if (below(4) == 0 && commands.length() > 0) {
            commands.setCharAt(below(commands.length()), "+-*;05 ".charAt(below(7)));
        }
        if (below(6) == 0 && commands.length() > 0) {
            commands.setLength(below(commands.length()));
        }
        for (int i = 0; i < commands.length(); i++) {
            call("append", (int) commands.charAt(i));
        }
        call("execute");
        call("digest");
        if (below(2) == 0) {
            call("execute");
        }
    }

    private int key() {
        return below(40) == 0 ? WILD[below(WILD.length)] : below(keys);
    }

    private int presentKey() {
        return model.count() == 0 ? key() : model.present(below(model.count()));
    }

    private int few(int least, int most) {
        if (below(15) > 0) {
            return least + below(most - least + 1);
        }
        return below(2) == 0 ? WILD[below(WILD.length)] : below(2) == 0 ? least - 1 : most + 1;
    }

    private void call(String name, Object... values) throws Exception {
        if (calls >= CALLS || failed) {
            return;
        }
        calls++;
        Object[] arguments = new Object[values.length];
        Class<?>[] types = new Class<?>[values.length];
        for (int i = 0; i < values.length; i++) {
            arguments[i] = values[i] instanceof Character c ? Integer.valueOf(c) : values[i];
            types[i] = values[i] instanceof Boolean ? boolean.class : int.class;
        }
        String want = answer(Model.class.getMethod(name, types), model, arguments);
        String got = answer(CuckooAudit.class.getMethod(name, types), program, arguments);
        told.append(name).append(List.of(arguments)).append(" -> ").append(want).append('\n');
        METHODS_SEEN.computeIfAbsent(name, n -> new int[2])[want.startsWith("throws") ? 1 : 0]++;
        if (!got.equals(want)) {
            wrong++;
            failed = true;
            System.out.println("run " + number + ", call " + calls + " answered " + got + "; due is the last row:");
            System.out.println(told);
        }
    }

    private static String answer(Method method, Object object, Object[] arguments) throws Exception {
        try {
            return String.valueOf(method.invoke(object, arguments));
        } catch (InvocationTargetException e) {
            return "throws " + e.getCause().getClass().getName();
        }
    }
}
