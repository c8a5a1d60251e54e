import java.util.ArrayList;
import java.util.List;

/** A GrowingText and a PlainText side by side: each call is made on both, and unlike answers are told. */
final class Pair {
    private static int wrong = 0;

    private final GrowingText fast = new GrowingText();
    private final PlainText plain = new PlainText();
    private final List<String> story = new ArrayList<>();

    static void finish(String test) {
        System.out.println(wrong == 0 ? test + ": all answers are as due" : test + ": " + wrong + " wrong answers");
        if (wrong != 0) System.exit(1);
    }

    int callsLeft() {
        return Calls.MOST_CALLS - story.size();
    }

    int ask(String call, int a, int b, int c) {
        int got = Calls.make(fast, call, a, b, c);
        int due = Calls.make(plain, call, a, b, c);
        story.add(call + "(" + a + ", " + b + ", " + c + ") = " + due);
        if (story.size() > Calls.MOST_CALLS) throw new IllegalStateException("more calls than the document promises");
        if (got != due) {
            wrong++;
            if (wrong <= 5) System.out.println(String.join("\n", story) + "\n  but it answered " + got);
        }
        return due;
    }
}
