import java.lang.reflect.InvocationTargetException;
import java.lang.reflect.Method;
import java.util.ArrayList;
import java.util.Arrays;
import java.util.HashMap;
import java.util.List;
import java.util.Map;

/** Calls by their names, on a GrowingText or on a PlainText; and rows of them, written as text. */
final class Calls {
    static final String[] NAMES = {
        "begin", "grow", "growBy", "cut", "drift", "letter", "count", "state", "move", "end", "sheet", "set", "get",
        "size", "drop", "walk", "times", "kth", "rank", "absent", "missing", "often", "twice", "unlike", "single",
        "gap", "cover", "part", "common", "border", "next", "worth", "keep", "goBack"};
    static final int MOST_CALLS = 512;

    private static final Map<String, Method> FAST = methodsOf(GrowingText.class);
    private static final Map<String, Method> PLAIN = methodsOf(PlainText.class);

    record Call(String name, int... args) {
        @Override
        public String toString() {
            StringBuilder row = new StringBuilder(name).append('(');
            for (int i = 0; i < args.length; i++) row.append(i == 0 ? "" : ", ").append(args[i]);
            return row.append(')').toString();
        }
    }

    private Calls() {
    }

    private static Map<String, Method> methodsOf(Class<?> type) {
        Map<String, Method> found = new HashMap<>();
        List<String> names = Arrays.asList(NAMES);
        for (Method m : type.getDeclaredMethods()) if (names.contains(m.getName())) found.put(m.getName(), m);
        return found;
    }

    /** Numbers beyond those that the call takes are left out. */
    static int make(Object x, String name, int... args) {
        Method call = (x instanceof GrowingText ? FAST : PLAIN).get(name);
        if (call == null) throw new IllegalArgumentException("no such call: " + name);
        Object[] taken = new Object[call.getParameterCount()];
        for (int i = 0; i < taken.length; i++) taken[i] = args[i];
        try {
            return (int) call.invoke(x, taken);
        } catch (InvocationTargetException thrown) {
            throw new IllegalStateException(new Call(name, args) + " threw " + thrown.getCause(), thrown.getCause());
        } catch (IllegalAccessException closed) {
            throw new IllegalStateException(closed);
        }
    }

    static int make(Object x, Call call) {
        return make(x, call.name(), call.args());
    }

    /**
     * Calls with spaces between them, as in "begin(3) set(0,1,98)"; "text:abba" stands for those by which these letters
     * come behind, "row2:abc" for those by which sheet 2 comes to hold this.
     */
    static List<Call> parse(String text) {
        List<Call> calls = new ArrayList<>();
        for (String piece : text.split(" ")) {
            if (piece.startsWith("text:")) addLetters(calls, piece.substring(5));
            else if (piece.startsWith("row")) addRow(calls, piece.charAt(3) - '0', piece.substring(5));
            else if (!piece.isEmpty()) calls.add(parseOne(piece));
        }
        return calls;
    }

    private static void addLetters(List<Call> calls, String letters) {
        for (char c : letters.toCharArray()) calls.add(new Call("grow", c - 'a'));
    }

    private static void addRow(List<Call> calls, int s, String row) {
        calls.add(new Call("sheet", s, row.length()));
        for (int i = 0; i < row.length(); i++) {
            if (row.charAt(i) != 'a') calls.add(new Call("set", s, i, row.charAt(i)));
        }
    }

    private static Call parseOne(String piece) {
        int open = piece.indexOf('(');
        String inside = piece.substring(open + 1, piece.length() - 1);
        String[] numbers = inside.isEmpty() ? new String[0] : inside.split(",");
        int[] args = new int[numbers.length];
        for (int i = 0; i < args.length; i++) args[i] = Integer.parseInt(numbers[i]);
        Method call = FAST.get(piece.substring(0, open));
        if (call == null || call.getParameterCount() != args.length) throw new IllegalArgumentException(piece);
        return new Call(call.getName(), args);
    }
}
