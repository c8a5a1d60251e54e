import java.util.ArrayList;
import java.util.List;

/**
 * Every call with the numbers at and beside every edge, together, in many states: the answer must be the plain class's;
 * behind a refusal nothing may have changed, and behind other answers what has changed must be as in the plain class.
 */
public final class ArgumentsTest {
    /** The plain class takes too long to be asked, for each call, all there is of more letters than these. */
    private static final int FEW_LETTERS = 20;
    private static int calls = 0;
    private static int wrong = 0;

    private final List<Calls.Call> way;
    private final PlainText plain;
    private final View view;

    private ArgumentsTest(String way) {
        this.way = Calls.parse(way);
        this.plain = new PlainText();
        for (Calls.Call call : this.way) Calls.make(plain, call);
        this.view = View.behind(this.way);
    }

    public static void main(String[] args) {
        for (String way : Arguments.WAYS) {
            ArgumentsTest here = new ArgumentsTest(way);
            Arguments.each(here.plain, here::makeOne);
        }
        System.out.println("ArgumentsTest: " + calls + " calls, " + wrong + " wrong");
        if (wrong != 0 || calls == 0) System.exit(1);
    }

    private void makeOne(Calls.Call call) {
        calls++;
        GrowingText fast = new GrowingText();
        for (Calls.Call ahead : way) Calls.make(fast, ahead);
        int got = Calls.make(fast, call);
        PlainText model = plain.copy();
        int due = Calls.make(model, call);
        if (got != due) tell(call + " answered " + got + ", due is " + due);
        List<Calls.Call> on = new ArrayList<>(way);
        on.add(call);
        if (due < 0) {
            if (!View.behind(on).isLike(view)) tell(call + " was refused, but not all is as it was");
        } else if (changes(call.name()) && model.count(1) <= FEW_LETTERS) {
            if (!View.behind(on).isLike(View.behind(PlainText::new, on))) tell("not all is as due behind " + call);
        }
    }

    private static boolean changes(String name) {
        return List.of("begin", "grow", "growBy", "cut", "drift", "sheet", "set", "drop", "kth", "absent", "often", "single",
            "keep", "goBack").contains(name);
    }

    private void tell(String what) {
        wrong++;
        if (wrong <= 20) System.out.println("behind " + way + " " + what);
    }
}
