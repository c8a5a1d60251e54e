import java.util.ArrayList;
import java.util.List;
import java.util.function.Consumer;

/** Every call with the numbers at and beside every edge, together; and ways that lead to many states to make them in. */
final class Arguments {
    private static final int LEAST = Integer.MIN_VALUE, MOST = Integer.MAX_VALUE;
    static final String[] WAYS = {
        "",
        "begin(1) sheet(0,0) sheet(1,1) keep(1)",
        "text:b sheet(3,64) row0:b keep(0)",
        "begin(3) text:abb keep(1) text:ab row0:ab sheet(1,0) row2:xyz",
        "begin(5) text:abcde keep(0) cut(2) keep(1) row0:cab row1:e row3:abcd drop(3)",
        "begin(4) text:dabdabcabdad keep(0) begin(2) text:abaab keep(1) goBack(0) sheet(2,60) row1:aab",
        "begin(1) drift(60,1) sheet(0,60) sheet(1,61) sheet(2,64) keep(0)",
        "text:" + "a".repeat(59) + " sheet(0,1) sheet(1,2) row2:c row3:zzab",
        "text:a" + "b".repeat(59) + " row0:b row1:bbbb keep(1) sheet(3,0)",
        "begin(5) drift(60,9) sheet(0,1) kth(700,1) keep(0) cut(1) keep(1)"};

    private final PlainText plain;
    private final Consumer<Calls.Call> taker;

    private Arguments(PlainText plain, Consumer<Calls.Call> taker) {
        this.plain = plain;
        this.taker = taker;
    }

    /** All those calls; which numbers stand at an edge hangs on where they are made. */
    static void each(PlainText where, Consumer<Calls.Call> taker) {
        new Arguments(where, taker).makeAll();
    }

    private void makeAll() {
        int letters = plain.count(1);
        int states = plain.count(2);
        int[] sheet = {LEAST, -1, 0, 1, 2, 3, 4, MOST};
        int[] state = beside(0, states - 1);
        int[] sign = {LEAST, -1, 0, 96, 97, 102, 65535, 65536, MOST};
        int[] place = {LEAST, -1, 0, 1, 2, 59, 60, 61, 63, 64, MOST};
        int[] kth = beside(0, letters, plain.count(5), plain.count(10), 61, 64);
        make("begin", beside(1, 5));
        make("grow", beside(0, plain.count(0) - 1));
        for (String name : new String[] {"growBy", "size", "drop", "walk", "rank", "absent", "single", "gap"}) make(name, sheet);
        for (String name : new String[] {"cut", "unlike", "next"}) make(name, beside(0, letters));
        make("drift", beside(1, 60 - letters, 60), beside(1, 999999));
        make("letter", beside(0, letters - 1));
        make("count", beside(0, 2, 5, 8, 10));
        make("state", state, beside(0, 3, 6));
        make("move", state, beside(0, plain.count(0) - 1));
        make("end", state, beside(0, letters, 64));
        make("sheet", sheet, beside(0, 64));
        make("set", sheet, place, sign);
        make("get", sheet, place);
        make("times", sheet, beside(0, 2));
        make("kth", kth, sheet);
        make("missing", beside(0, 13, 15, 19, 30, 32, 60, 64));
        make("often", beside(1, letters + 1), sheet);
        make("twice", beside(1, letters, 60));
        make("cover");
        make("part", kth);
        make("common", sheet, beside(0, 1));
        make("border", kth);
        make("worth", beside(1, 9));
        make("keep", beside(0, 1));
        make("goBack", beside(0, 1));
    }

    /** These numbers, those beside them, and the least and the most that there are. */
    private static int[] beside(int... edges) {
        List<Integer> found = new ArrayList<>(List.of(LEAST, LEAST + 1, -1, MOST - 1, MOST));
        for (int edge : edges) {
            for (int i = edge - 1; i <= edge + 1; i++) if (!found.contains(i)) found.add(i);
        }
        return found.stream().mapToInt(i -> i).toArray();
    }

    private void make(String name, int[]... choices) {
        make(name, new int[choices.length], 0, choices);
    }

    private void make(String name, int[] args, int chosen, int[][] choices) {
        if (chosen == choices.length) {
            taker.accept(new Calls.Call(name, args.clone()));
            return;
        }
        for (int number : choices[chosen]) {
            args[chosen] = number;
            make(name, args, chosen + 1, choices);
        }
    }
}
