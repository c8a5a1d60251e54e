import java.util.ArrayList;
import java.util.List;
import java.util.function.Supplier;

/**
 * All that can be asked where some calls have led, with the answers. No object is used for more calls than the
 * document promises: where they are used up, the same calls lead another one there.
 */
final class View {
    private final Supplier<Object> maker;
    private final List<Calls.Call> way;
    private final List<Calls.Call> asked = new ArrayList<>();
    private final List<Integer> answers = new ArrayList<>();
    private Object x;
    private int callsLeft;

    private View(Supplier<Object> maker, List<Calls.Call> way) {
        this.maker = maker;
        this.way = way;
    }

    static View behind(List<Calls.Call> way) {
        return behind(GrowingText::new, way);
    }

    static View behind(Supplier<Object> maker, List<Calls.Call> way) {
        View view = new View(maker, way);
        view.leadThere();
        view.askSheets();
        view.askText();
        view.askStates();
        view.askWords();
        view.askWordsToSheets();
        for (int i = 0; i < 2; i++) view.askImage(i);
        return view;
    }

    /** What is asked hangs on nothing but the answers ahead of it, so like answers are answers to like calls. */
    boolean isLike(View other) {
        return answers.equals(other.answers);
    }

    /** The first call that was not answered alike. */
    String firstUnlike(View other) {
        for (int i = 0; i < Math.min(answers.size(), other.answers.size()); i++) {
            if (!answers.get(i).equals(other.answers.get(i))) {
                return asked.get(i) + " answered " + answers.get(i) + ", there " + other.answers.get(i);
            }
        }
        return "none";
    }

    private void leadThere() {
        x = maker.get();
        for (Calls.Call call : way) Calls.make(x, call);
        callsLeft = Calls.MOST_CALLS - way.size();
        if (callsLeft < 100) throw new IllegalStateException("the way is too long");
    }

    private int ask(String name, int... args) {
        if (callsLeft == 0) leadThere();
        callsLeft--;
        int answer = Calls.make(x, name, args);
        asked.add(new Calls.Call(name, args));
        answers.add(answer);
        return answer;
    }

    private void askSheets() {
        for (int s = 0; s < 4; s++) {
            int size = ask("size", s);
            for (int i = 0; i < size; i++) ask("get", s, i);
            ask("walk", s);
            for (int what = 0; what <= 2; what++) ask("times", s, what);
            ask("rank", s);
            ask("gap", s);
            for (int what = 0; what <= 1; what++) ask("common", s, what);
        }
    }

    private void askText() {
        for (int what = 0; what <= 10; what++) ask("count", what);
        int letters = ask("count", 1);
        for (int i = 0; i < letters; i++) ask("letter", i);
    }

    private void askStates() {
        int kinds = ask("count", 0);
        int states = ask("count", 2);
        for (int s = 0; s < states; s++) {
            for (int what = 0; what <= 6; what++) ask("state", s, what);
            for (int c = 0; c < kinds; c++) ask("move", s, c);
            int ends = ask("state", s, 3);
            for (int i = 0; i < ends; i++) ask("end", s, i);
        }
    }

    private void askWords() {
        int letters = ask("count", 1);
        for (int i = 0; i <= letters; i++) {
            ask("missing", i);
            ask("unlike", i);
            ask("next", i);
            ask("part", i);
            ask("border", i);
        }
        for (int i = 1; i <= letters; i++) ask("twice", i);
        for (int v = 1; v <= 9; v++) ask("worth", v);
        ask("cover");
    }

    /** These change sheets, so each is read at once, and from an object that is used for nothing else. */
    private void askWordsToSheets() {
        leadThere();
        readBehind(3, "absent", 3);
        readBehind(3, "single", 3);
        leadThere();
        readBehind(3, "often", 2, 3);
        readBehind(3, "kth", 1, 3);
        leadThere();
    }

    private void readBehind(int s, String name, int... args) {
        int size = ask(name, args);
        for (int i = 0; i < size; i++) ask("get", s, i);
    }

    private void askImage(int i) {
        List<Calls.Call> back = new ArrayList<>(way);
        back.add(new Calls.Call("goBack", i));
        View view = new View(maker, back);
        view.leadThere();
        view.askText();
        view.askStates();
        asked.addAll(view.asked);
        answers.addAll(view.answers);
    }
}
