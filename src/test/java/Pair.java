import java.util.ArrayList;
import java.util.List;

/** A GrowingText and a PlainText side by side: each call is made on both, and unlike answers are told. */
final class Pair {
    static final String[] CALLS = {
        "begin", "grow", "growBy", "cut", "drift", "letter", "count", "state", "move", "end", "sheet", "set", "get",
        "size", "drop", "walk", "times", "kth", "rank", "absent", "missing", "often", "twice", "unlike", "single",
        "gap", "cover", "part", "common", "border", "next", "worth", "keep", "goBack"};
    static final int MOST_CALLS = 512;
    private static int wrong = 0;

    private final GrowingText fast = new GrowingText();
    private final PlainText plain = new PlainText();
    private final List<String> story = new ArrayList<>();

    static void finish(String test) {
        System.out.println(wrong == 0 ? test + ": all answers are as due" : test + ": " + wrong + " wrong answers");
        if (wrong != 0) System.exit(1);
    }

    int callsLeft() {
        return MOST_CALLS - story.size();
    }

    int ask(String call, int a, int b, int c) {
        int got = askFast(call, a, b, c);
        int due = askPlain(call, a, b, c);
        story.add(call + "(" + a + ", " + b + ", " + c + ") = " + due);
        if (story.size() > MOST_CALLS) throw new IllegalStateException("more calls than the document promises");
        if (got != due) {
            wrong++;
            if (wrong <= 5) System.out.println(String.join("\n", story) + "\n  but it answered " + got);
        }
        return due;
    }

    private int askFast(String call, int a, int b, int c) {
        GrowingText x = fast;
        switch (call) {
            case "begin": return x.begin(a);
            case "grow": return x.grow(a);
            case "growBy": return x.growBy(a);
            case "cut": return x.cut(a);
            case "drift": return x.drift(a, b);
            case "letter": return x.letter(a);
            case "count": return x.count(a);
            case "state": return x.state(a, b);
            case "move": return x.move(a, b);
            case "end": return x.end(a, b);
            case "sheet": return x.sheet(a, b);
            case "set": return x.set(a, b, c);
            case "get": return x.get(a, b);
            case "size": return x.size(a);
            case "drop": return x.drop(a);
            case "walk": return x.walk(a);
            case "times": return x.times(a, b);
            case "kth": return x.kth(a, b);
            case "rank": return x.rank(a);
            case "absent": return x.absent(a);
            case "missing": return x.missing(a);
            case "often": return x.often(a, b);
            case "twice": return x.twice(a);
            case "unlike": return x.unlike(a);
            case "single": return x.single(a);
            case "gap": return x.gap(a);
            case "cover": return x.cover();
            case "part": return x.part(a);
            case "common": return x.common(a, b);
            case "border": return x.border(a);
            case "next": return x.next(a);
            case "worth": return x.worth(a);
            case "keep": return x.keep(a);
            case "goBack": return x.goBack(a);
            default: throw new IllegalStateException(call);
        }
    }

    private int askPlain(String call, int a, int b, int c) {
        PlainText x = plain;
        switch (call) {
            case "begin": return x.begin(a);
            case "grow": return x.grow(a);
            case "growBy": return x.growBy(a);
            case "cut": return x.cut(a);
            case "drift": return x.drift(a, b);
            case "letter": return x.letter(a);
            case "count": return x.count(a);
            case "state": return x.state(a, b);
            case "move": return x.move(a, b);
            case "end": return x.end(a, b);
            case "sheet": return x.sheet(a, b);
            case "set": return x.set(a, b, c);
            case "get": return x.get(a, b);
            case "size": return x.size(a);
            case "drop": return x.drop(a);
            case "walk": return x.walk(a);
            case "times": return x.times(a, b);
            case "kth": return x.kth(a, b);
            case "rank": return x.rank(a);
            case "absent": return x.absent(a);
            case "missing": return x.missing(a);
            case "often": return x.often(a, b);
            case "twice": return x.twice(a);
            case "unlike": return x.unlike(a);
            case "single": return x.single(a);
            case "gap": return x.gap(a);
            case "cover": return x.cover();
            case "part": return x.part(a);
            case "common": return x.common(a, b);
            case "border": return x.border(a);
            case "next": return x.next(a);
            case "worth": return x.worth(a);
            case "keep": return x.keep(a);
            case "goBack": return x.goBack(a);
            default: throw new IllegalStateException(call);
        }
    }
}
