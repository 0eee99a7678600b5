import java.lang.reflect.InvocationTargetException;
import java.lang.reflect.Method;
import java.nio.file.Files;
import java.nio.file.Path;
import java.util.ArrayList;
import java.util.List;
import java.util.regex.Matcher;
import java.util.regex.Pattern;

/** What README.md says: each call that it shows answers what stands behind it, and it names each method. */
public final class ReadmeTest {
    private static final Pattern SHOWN = Pattern.compile("(?m)^ {4}filter\\.(\\w+)\\((.*?)\\); +// ([\\w-]+).*$");
    private static final Pattern ANY_CALL = Pattern.compile("(?m)^ {4}filter\\.");

    private static int wrong;

    public static void main(String[] args) throws Exception {
        String readme = Files.readString(Path.of("README.md"));
        int calls = shownCalls(readme);
        int written = (int) ANY_CALL.matcher(readme).results().count();
        check(calls > 0 && calls == written, calls + " of " + written + " calls could be read");
        for (Method method : CuckooAudit.class.getMethods()) {
            boolean ofTheFace = method.getDeclaringClass() == CuckooAudit.class;
            check(!ofTheFace || readme.contains("`" + method.getName() + "`"), "not named: " + method.getName());
        }
        System.out.println("ReadmeTest: " + calls + " calls, " + wrong + " faults");
        if (wrong != 0) {
            System.exit(1);
        }
    }

    /** Makes the calls on one object, in their order, and tells how many there are. */
    private static int shownCalls(String readme) throws IllegalAccessException {
        CuckooAudit filter = new CuckooAudit();
        Matcher shown = SHOWN.matcher(readme);
        int calls = 0;
        while (shown.find()) {
            calls++;
            String got = answer(filter, shown.group(1), argumentsOf(shown.group(2)));
            check(got.equals(shown.group(3)), shown.group().trim() + ": the answer is " + got);
        }
        return calls;
    }

    private static List<Integer> argumentsOf(String written) {
        List<Integer> arguments = new ArrayList<>();
        for (String one : written.isEmpty() ? new String[0] : written.split(", ")) {
            arguments.add(one.startsWith("'") ? one.charAt(1) : Integer.parseInt(one));
        }
        return arguments;
    }

    private static String answer(CuckooAudit filter, String name, List<Integer> arguments)
            throws IllegalAccessException {
        for (Method method : CuckooAudit.class.getMethods()) {
            if (method.getName().equals(name) && method.getParameterCount() == arguments.size()) {
                try {
                    return String.valueOf(method.invoke(filter, arguments.toArray()));
                } catch (InvocationTargetException e) {
                    return e.getCause().getClass().getSimpleName();
                }
            }
        }
        return "no such method";
    }

    private static void check(boolean good, String fault) {
        if (!good) {
            wrong++;
            System.out.println(fault);
        }
    }
}
