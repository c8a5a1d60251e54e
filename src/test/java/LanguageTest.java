import java.lang.reflect.Constructor;
import java.lang.reflect.Field;
import java.lang.reflect.Method;
import java.lang.reflect.Modifier;
import java.nio.file.Files;
import java.nio.file.Path;
import java.util.Set;
import java.util.TreeSet;
import java.util.regex.Matcher;
import java.util.regex.Pattern;

/** The rules of LANGUAGE.md that can be seen from the class and from its text. */
public final class LanguageTest {
    private static final String SOURCE = "src/main/java/GrowingText.java";
    private static final String[] FACE = {
        "begin(int)", "grow(int)", "growBy(int)", "cut(int)", "drift(int,int)", "letter(int)", "count(int)",
        "state(int,int)", "move(int,int)", "end(int,int)", "sheet(int,int)", "set(int,int,int)", "get(int,int)",
        "size(int)", "drop(int)", "walk(int)", "times(int,int)", "kth(int,int)", "rank(int)", "absent(int)",
        "missing(int)", "often(int,int)", "twice(int)", "unlike(int)", "single(int)", "gap(int)", "cover()",
        "part(int)", "common(int,int)", "border(int)", "next(int)", "worth(int)", "keep(int)", "goBack(int)"};
    private static final Set<String> NAMES = Set.of(Calls.NAMES);
    private static final String[] CONSTANTS = {"BAD", "NOT", "FULL", "NONE", "NULL", "PLACE", "MUCH"};
    private static final String[] RULED_OUT = {
        "throw", "throws", "try", "catch", "finally", "synchronized", "assert", "import", "package", "double", "float",
        "hashCode", "toString", "\\w+Exact", "currentTimeMillis", "nanoTime", "random", "Thread", "protected"};
    private static int wrong = 0;

    private static void check(boolean holds, String what) {
        if (holds) return;
        wrong++;
        System.out.println("LanguageTest: " + what);
    }

    public static void main(String[] args) throws Exception {
        checkFace();
        checkNestedClasses();
        checkText(Files.readString(Path.of(SOURCE)));
        System.out.println("LanguageTest: " + (wrong == 0 ? "all rules are kept" : wrong + " faults"));
        if (wrong != 0) System.exit(1);
    }

    private static void checkFace() {
        Class<?> face = GrowingText.class;
        check(face.getModifiers() == (Modifier.PUBLIC | Modifier.FINAL), "the class is not public and final");
        Set<String> found = new TreeSet<>();
        for (Method m : face.getDeclaredMethods()) {
            if (Modifier.isPrivate(m.getModifiers())) {
                check(!NAMES.contains(m.getName()), "a public method's name: " + m);
                continue;
            }
            check(m.getModifiers() == Modifier.PUBLIC, "not just public: " + m);
            check(m.getReturnType() == int.class, "answers no int: " + m);
            found.add(signature(m));
        }
        check(found.equals(new TreeSet<>(Set.of(FACE))), "the methods are " + found);
        Set<String> constants = new TreeSet<>();
        for (Field f : face.getDeclaredFields()) {
            if (!Modifier.isPrivate(f.getModifiers())) constants.add(f.getName());
            if (Modifier.isStatic(f.getModifiers())) check(Modifier.isFinal(f.getModifiers()), "not final: " + f);
        }
        check(constants.equals(new TreeSet<>(Set.of(CONSTANTS))), "the constants are " + constants);
        Constructor<?>[] makers = face.getDeclaredConstructors();
        check(makers.length == 1 && makers[0].getParameterCount() == 0, "the constructor is not the document's");
    }

    private static String signature(Method m) {
        StringBuilder row = new StringBuilder(m.getName()).append('(');
        for (Class<?> type : m.getParameterTypes()) row.append(row.charAt(row.length() - 1) == '(' ? "" : ",").append(type);
        return row.append(')').toString();
    }

    private static void checkNestedClasses() {
        Class<?>[] nested = GrowingText.class.getDeclaredClasses();
        check(nested.length < 12, "there are too many classes");
        for (Class<?> c : nested) {
            check(Modifier.isStatic(c.getModifiers()), c + " is not static");
            check(c.getDeclaredFields().length <= 20, c + " has too many fields");
            for (Method m : c.getDeclaredMethods()) {
                check(!NAMES.contains(m.getName()), "a public method's name: " + m);
                check(m.getParameterCount() <= 7, "too many parameters: " + m);
            }
            for (Field f : c.getDeclaredFields()) {
                check(!Modifier.isStatic(f.getModifiers()) || Modifier.isFinal(f.getModifiers()), "not final: " + f);
            }
        }
    }

    private static void checkText(String source) {
        String code = source.replaceAll("(?s)/\\*.*?\\*/", "").replaceAll("//[^\n]*", "");
        for (String word : RULED_OUT) {
            check(!Pattern.compile("\\b" + word + "\\b").matcher(code).find(), "ruled out: " + word);
        }
        check(!code.contains("->") && !code.contains("::"), "a lambda or a method reference");
        // What a call makes is counted in one room with all other calls: here only constructors make anything.
        Matcher made = Pattern.compile("\\n( +)(\\w[^\\n;]*\\{)|\\bnew\\b").matcher(code);
        String method = "";
        while (made.find()) {
            boolean header = made.group(2) != null && made.group(2).contains("(")
                && !made.group(2).matches("(if|for|while|switch|\\}).*");
            if (header) method = made.group(2);
            if (made.group(2) == null) check(method.matches("(public )?[A-Z]\\w*\\(.*"), "something is made in " + method);
        }
    }
}
