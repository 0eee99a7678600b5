import java.lang.reflect.Constructor;
import java.lang.reflect.Field;
import java.lang.reflect.Method;
import java.lang.reflect.Modifier;
import java.nio.file.Files;
import java.nio.file.Path;
import java.util.Arrays;
import java.util.TreeSet;
import java.util.regex.Matcher;
import java.util.regex.Pattern;

/** The face of the class, and what of the rules of LANGUAGE.md can be seen without running it. */
public final class LanguageTest {
    private static final String[] FACE = {
        "int tag(int) IllegalArgumentException",
        "int body(int) IllegalArgumentException",
        "int bucket(int,boolean) IllegalArgumentException",
        "boolean found(int) IllegalArgumentException",
        "int place(int) IllegalArgumentException",
        "int present(int) IndexOutOfBoundsException",
        "int count()",
        "int add(int) IllegalArgumentException IllegalStateException",
        "int addShortest(int) IllegalArgumentException IllegalStateException",
        "int delete(int) IllegalArgumentException IllegalStateException",
        "int grow() IllegalStateException",
        "int rebuild(int,int,int,int) IllegalArgumentException IllegalStateException",
        "int setLimit(int) IllegalArgumentException",
        "int setLength(int) IllegalArgumentException",
        "int clear()",
        "int info(int) IllegalArgumentException",
        "int slot(int,int,int) IndexOutOfBoundsException IllegalArgumentException",
        "int stashed(int,int) IndexOutOfBoundsException IllegalArgumentException",
        "int filled(int) IllegalArgumentException",
        "int walk(int) IllegalArgumentException",
        "int walkStep(int,int,boolean) IllegalArgumentException",
        "int leastMoves(int) IllegalArgumentException",
        "int roomFor(int,int) IllegalArgumentException",
        "int falseKeys(int,int) IllegalArgumentException",
        "int falseKey(int)",
        "int blamed(int,int) IndexOutOfBoundsException",
        "int twins()",
        "int bestSeed(int) IllegalArgumentException",
        "int leastBits(int,int) IllegalArgumentException",
        "boolean couldFit(int,int,int) IllegalArgumentException",
        "int rateBits()",
        "int append(int) IllegalArgumentException IllegalStateException",
        "int clearText()",
        "int execute()",
        "int undo() IllegalStateException",
        "long digest()"};

    private static final String[] NOT_IN_THE_SOURCE = {
        "->", "::", "\\bcatch\\b", "\\btry\\b", "\\bfinally\\b", "\\bsynchronized\\b", "\\bassert\\b", "\\bimport\\b",
        "\\bpackage\\b", "\\bdouble\\b", "\\blambda\\b", "Exact\\(", "Float\\.", "Math\\.", "System\\.", "\\bvar\\b",
        "\" \\+", "\\+ \"", "@", "\\bstatic \\{"};

    private static int wrong;

    public static void main(String[] args) throws Exception {
        face();
        for (Class<?> inside : CuckooAudit.class.getDeclaredClasses()) {
            classInside(inside);
        }
        check(CuckooAudit.class.getDeclaredClasses().length < 12, "too many classes");
        String text = Files.readString(Path.of("src/main/java/CuckooAudit.java"));
        source(text);
        if (Files.exists(Path.of("../shared/DOC.md"))) {
            documentsFace(Files.readString(Path.of("../shared/DOC.md")), text);
        }
        System.out.println("LanguageTest: " + wrong + " faults");
        if (wrong != 0) {
            System.exit(1);
        }
    }

    private static void check(boolean good, String fault) {
        if (!good) {
            wrong++;
            System.out.println(fault);
        }
    }

    private static void face() throws Exception {
        Class<?> c = CuckooAudit.class;
        check(Modifier.isPublic(c.getModifiers()), "the class is not public");
        check(Modifier.isFinal(c.getModifiers()), "the class is not final");
        check(c.getSuperclass() == Object.class && c.getInterfaces().length == 0, "the class extends something");
        check(c.getDeclaredConstructors().length == 1, "not one constructor");
        Constructor<?> made = c.getDeclaredConstructor();
        check(Modifier.isPublic(made.getModifiers()), "the constructor is not public");
        TreeSet<String> want = new TreeSet<>(Arrays.asList(FACE));
        TreeSet<String> got = new TreeSet<>();
        for (Method m : c.getDeclaredMethods()) {
            if (!Modifier.isPrivate(m.getModifiers())) {
                check(Modifier.isPublic(m.getModifiers()) && !Modifier.isStatic(m.getModifiers()), "face: " + m);
                got.add(told(m));
            } else {
                check(!isFaceName(m.getName()), "a private method with a face's name: " + m);
            }
        }
        check(got.equals(want), "the face is " + got + ", due is " + want);
        for (Field f : c.getDeclaredFields()) {
            boolean isNone = f.getName().equals("NONE");
            check(Modifier.isPublic(f.getModifiers()) == isNone, "visible: " + f);
            check(isNone || Modifier.isPrivate(f.getModifiers()), "visible: " + f);
            check(isFixed(f), "static, not final: " + f);
        }
        Field none = c.getField("NONE");
        check(none.getType() == int.class && Modifier.isStatic(none.getModifiers()), "NONE is no constant");
        check(none.getInt(null) == -1, "NONE is not -1");
    }

    /** The public lines of the source must be those of the document's face, in the same order. */
    private static void documentsFace(String document, String text) {
        int begin = document.indexOf("```java");
        String want = publicLines(document.substring(begin, document.indexOf("```", begin + 1)));
        String got = publicLines(withoutComments(text));
        check(got.equals(want), "the document's face is\n" + want + "the source's is\n" + got);
    }

    private static String publicLines(String code) {
        StringBuilder lines = new StringBuilder();
        Matcher line = Pattern.compile("public [^;{]*").matcher(code.replaceAll("\\s+", " "));
        while (line.find()) {
            lines.append(line.group().trim()).append('\n');
        }
        return lines.toString();
    }

    private static String withoutComments(String text) {
        return text.replaceAll("(?s)/\\*.*?\\*/", "").replaceAll("//[^\n]*", "");
    }

    private static boolean isFixed(Field f) {
        return !Modifier.isStatic(f.getModifiers()) || Modifier.isFinal(f.getModifiers());
    }

    private static String told(Method m) {
        StringBuilder told = new StringBuilder();
        told.append(m.getReturnType()).append(' ').append(m.getName()).append('(');
        for (int i = 0; i < m.getParameterTypes().length; i++) {
            told.append(i == 0 ? "" : ",").append(m.getParameterTypes()[i]);
        }
        told.append(')');
        for (Class<?> e : m.getExceptionTypes()) {
            told.append(' ').append(e.getSimpleName());
        }
        return told.toString();
    }

    private static boolean isFaceName(String name) {
        return Arrays.stream(FACE).anyMatch(line -> line.matches("\\w+ " + name + "\\(.*"));
    }

    private static void classInside(Class<?> c) {
        check(Modifier.isPrivate(c.getModifiers()) && Modifier.isStatic(c.getModifiers()), "not private static: " + c);
        int fields = 0;
        for (Field f : c.getDeclaredFields()) {
            fields += Modifier.isStatic(f.getModifiers()) ? 0 : 1;
            check(isFixed(f), "static, not final: " + f);
        }
        check(fields <= 20, "too many fields: " + c);
        for (Method m : c.getDeclaredMethods()) {
            check(!isFaceName(m.getName()), "a method inside with a face's name: " + m);
            check(m.getParameterCount() <= 7, "too many parameters: " + m);
        }
    }

    private static void source(String text) {
        String code = withoutComments(text);
        for (String banned : NOT_IN_THE_SOURCE) {
            Matcher m = Pattern.compile(banned).matcher(code);
            check(!m.find(), "the source has " + banned);
        }
        int start = 0;
        String[] lines = text.split("\n", -1);
        for (int i = 0; i < lines.length; i++) {
            boolean opens = lines[i].matches(" {4}( {4})?[a-z].*\\{") && !lines[i].contains(" class ");
            start = opens ? i : start;
            boolean closes = lines[i].matches(" {4}( {4})?\\}");
            check(!closes || i - start <= 60, "a long method ends in line " + (i + 1));
            check(lines[i].length() <= 120, "a long line: " + (i + 1));
        }
    }
}
