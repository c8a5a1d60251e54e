import java.util.HashMap;
import java.util.Map;

/**
 * Where some calls lead. Each question is asked there on an object of its own, and behind each answer that refuses,
 * or tells what was found, all that can be asked must be answered as if the call had not been made.
 */
final class Way {
    private static final Map<String, View> VIEWS = new HashMap<>();

    private final String calls;

    Way(String calls) {
        this.calls = calls;
    }

    private Object led() {
        Object x = new GrowingText();
        for (Calls.Call call : Calls.parse(calls)) Calls.make(x, call);
        return x;
    }

    /** The call answers this here. */
    Way due(String call, int want) {
        int got = Calls.make(led(), Calls.parse(call).get(0));
        Boundaries.check(got == want, "behind '" + calls + "' " + call + " answered " + got + ", due is " + want);
        if (want < 0) new Way(calls + " " + call).alike(calls);
        return this;
    }

    /** The numbers low to high are taken where the # stands, at least the first and the last; others get this answer. */
    Way range(String call, int low, int high, int otherwise) {
        for (int taken : new int[] {low, high}) {
            String at = call.replace("#", String.valueOf(taken));
            int got = Calls.make(led(), Calls.parse(at).get(0));
            Boundaries.check(got != otherwise, "behind '" + calls + "' " + at + " answered " + got);
        }
        return refuses(call, high, otherwise).due(call.replace("#", String.valueOf(low - 1)), otherwise);
    }

    /** No number above this one, and none below 0, is taken where the # stands. */
    Way refuses(String call, int high, int otherwise) {
        if (high < Boundaries.MOST) {
            due(call.replace("#", String.valueOf(high + 1)), otherwise);
            due(call.replace("#", String.valueOf(Boundaries.MOST)), otherwise);
        }
        due(call.replace("#", "-1"), otherwise);
        return due(call.replace("#", String.valueOf(Boundaries.LEAST)), otherwise);
    }

    /** All that can be asked here is answered as where the other calls lead. */
    Way alike(String others) {
        View here = View.behind(Calls.parse(calls));
        View there = VIEWS.computeIfAbsent(others, way -> View.behind(Calls.parse(way)));
        Boundaries.check(here.isLike(there), "behind '" + calls + "' not all is as behind '" + others + "': "
            + here.firstUnlike(there));
        return this;
    }

    /** A sheet holds this; null: it is missing. */
    Way row(int s, String want) {
        Object x = led();
        int size = Calls.make(x, "size", s);
        StringBuilder row = new StringBuilder();
        for (int i = 0; i < size; i++) row.append((char) Calls.make(x, "get", s, i));
        String got = size < 0 ? null : row.toString();
        boolean holds = want == null ? size == Boundaries.NULL : want.equals(got);
        Boundaries.check(holds, "behind '" + calls + "' sheet " + s + " holds " + got + ", due is " + want);
        return this;
    }

    /** The text is this. */
    Way text(String want) {
        Object x = led();
        StringBuilder row = new StringBuilder();
        int letters = Calls.make(x, "count", 1);
        for (int i = 0; i < letters; i++) row.append((char) (97 + Calls.make(x, "letter", i)));
        Boundaries.check(want.contentEquals(row), "behind '" + calls + "' the text is " + row + ", due is " + want);
        return this;
    }

    /** These answers are due to what = 0, 1, .. where the # stands. */
    Way each(String call, int... want) {
        for (int i = 0; i < want.length; i++) due(call.replace("#", String.valueOf(i)), want[i]);
        return this;
    }
}
