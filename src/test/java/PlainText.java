import java.math.BigInteger;
import java.util.ArrayList;
import java.util.HashMap;
import java.util.List;
import java.util.Map;
import java.util.TreeMap;
import java.util.TreeSet;

/**
 * The document's words once more, as plainly and as slowly as can be: every word is written out with its
 * ENDS, and states are rows of words that are split as the document tells. It shares nothing with GrowingText
 * but the answers.
 */
final class PlainText {
    static final int BAD = -1, NOT = -2, FULL = -3, NONE = -4, NULL = -11, PLACE = -12, MUCH = -13;
    private static final BigInteger GREATEST = BigInteger.valueOf(Integer.MAX_VALUE);

    private static final class State {
        final TreeSet<String> words = new TreeSet<>();
        int made;
        int of = NONE;

        State copy() {
            State other = new State();
            other.words.addAll(words);
            other.made = made;
            other.of = of;
            return other;
        }

        String longest() {
            String found = words.first();
            for (String w : words) if (w.length() > found.length()) found = w;
            return found;
        }

        String shortest() {
            String found = words.first();
            for (String w : words) if (w.length() < found.length()) found = w;
            return found;
        }
    }

    private int k = 2;
    private String text = "";
    private List<State> states = new ArrayList<>();
    private TreeMap<String, List<Integer>> words = new TreeMap<>();
    private final String[] sheets = new String[4];
    private final int[] keptKinds = new int[2];
    private final String[] keptTexts = new String[2];

    PlainText() {
        startWith(2, "");
    }

    /** Another one that is as this one is now. */
    PlainText copy() {
        PlainText other = new PlainText();
        other.k = k;
        other.text = text;
        other.words = words;
        other.states = new ArrayList<>();
        for (State s : states) other.states.add(s.copy());
        System.arraycopy(sheets, 0, other.sheets, 0, sheets.length);
        System.arraycopy(keptKinds, 0, other.keptKinds, 0, keptKinds.length);
        System.arraycopy(keptTexts, 0, other.keptTexts, 0, keptTexts.length);
        return other;
    }

    private void startWith(int kinds, String row) {
        k = kinds;
        text = "";
        states = new ArrayList<>();
        State empty = new State();
        empty.words.add("");
        states.add(empty);
        words = wordsOf(text);
        for (char c : row.toCharArray()) add(c);
    }

    private static TreeMap<String, List<Integer>> wordsOf(String row) {
        TreeMap<String, List<Integer>> found = new TreeMap<>();
        for (int end = 0; end <= row.length(); end++) {
            for (int from = 0; from <= end; from++) {
                List<Integer> ends = found.computeIfAbsent(row.substring(from, end), w -> new ArrayList<>());
                ends.add(end);
            }
        }
        return found;
    }

    private void add(char c) {
        text = text + c;
        words = wordsOf(text);
        int older = states.size();
        State whole = new State();
        whole.made = text.length();
        List<Integer> ends = words.get(text);
        for (int from = 0; from < text.length(); from++) {
            String w = text.substring(from);
            if (words.get(w).equals(ends)) whole.words.add(w);
        }
        states.add(whole);
        for (int s = 1; s < older; s++) {
            State clone = new State();
            clone.made = text.length();
            clone.of = s;
            for (String w : states.get(s).words) if (text.endsWith(w)) clone.words.add(w);
            if (clone.words.isEmpty() || clone.words.size() == states.get(s).words.size()) continue;
            states.get(s).words.removeAll(clone.words);
            states.add(clone);
        }
        if (states.size() > older + 2) throw new IllegalStateException("more than one clone by one letter");
    }

    private int stateOf(String w) {
        for (int s = 0; s < states.size(); s++) if (states.get(s).words.contains(w)) return s;
        return NONE;
    }

    private boolean isSheet(int s) { return s >= 0 && s < 4; }
    private boolean isState(int s) { return s >= 0 && s < states.size(); }
    private boolean isLetter(int c) { return c >= 0 && c < k; }
    private List<Integer> endsOf(int s) { return words.get(states.get(s).words.first()); }
    private int n() { return text.length(); }

    private int put(int s, String w) {
        sheets[s] = w;
        return w.length();
    }

    int begin(int kinds) {
        if (kinds < 1 || kinds > 5) return BAD;
        int had = n();
        startWith(kinds, "");
        return had;
    }

    int grow(int letter) {
        if (!isLetter(letter)) return BAD;
        if (n() == 60) return FULL;
        add((char) (97 + letter));
        return states.size();
    }

    int growBy(int s) {
        if (!isSheet(s)) return BAD;
        if (sheets[s] == null) return NULL;
        for (char c : sheets[s].toCharArray()) if (!isLetter(c - 97)) return NOT;
        if (n() + sheets[s].length() > 60) return FULL;
        for (char c : sheets[s].toCharArray()) add(c);
        return n();
    }

    int cut(int off) {
        if (off < 0 || off > n()) return BAD;
        startWith(k, text.substring(0, n() - off));
        return n();
    }

    int drift(int many, int seed) {
        if (many < 1 || many > 60 || seed < 1 || seed > 999999) return BAD;
        if (n() + many > 60) return FULL;
        BigInteger x = BigInteger.valueOf(seed);
        for (int i = 0; i < many; i++) {
            x = x.multiply(BigInteger.valueOf(16807)).mod(BigInteger.valueOf(2147483647));
            add((char) (97 + x.mod(BigInteger.valueOf(k)).intValue()));
        }
        return n();
    }

    int letter(int i) {
        return i < 0 || i >= n() ? PLACE : text.charAt(i) - 97;
    }

    int count(int what) {
        int sum = 0;
        switch (what) {
            case 0: return k;
            case 1: return n();
            case 2: return states.size();
            case 3:
                for (State s : states) if (s.of != NONE) sum++;
                return sum;
            case 4:
                for (int s = 0; s < states.size(); s++) for (int c = 0; c < k; c++) if (move(s, c) != NONE) sum++;
                return sum;
            case 5: return words.size() - 1;
            case 6:
                if (n() == 0) return NONE;
                for (int from = 0; ; from++) if (words.get(text.substring(from)).size() > 1) return n() - from;
            case 7:
                if (n() == 0) return NONE;
                for (int p = 1; ; p++) if (isPeriod(p)) return p;
            case 8:
                for (String w : words.keySet()) sum += w.length();
                return sum;
            case 9:
                for (String s : sheets) if (s != null) sum++;
                return sum;
            case 10: return parts().size();
            default: return BAD;
        }
    }

    private boolean isPeriod(int p) {
        for (int i = p; i < n(); i++) if (text.charAt(i) != text.charAt(i - p)) return false;
        return true;
    }

    private List<Integer> parts() {
        List<Integer> begins = new ArrayList<>();
        int at = 0;
        while (at < n()) {
            begins.add(at);
            int many = 1;
            for (int m = 1; at + m <= n(); m++) {
                for (int e : words.get(text.substring(at, at + m))) if (e < at + m) many = m;
            }
            at += many;
        }
        return begins;
    }

    int state(int s, int what) {
        if (!isState(s) || what < 0 || what > 6) return BAD;
        State x = states.get(s);
        switch (what) {
            case 0: return x.longest().length();
            case 1: return x.shortest().length();
            case 2: return s == 0 ? NONE : stateOf(x.shortest().substring(1));
            case 3: return endsOf(s).size();
            case 4: return endsOf(s).get(0);
            case 5: return x.made;
            default: return x.of;
        }
    }

    int move(int s, int letter) {
        if (!isState(s) || !isLetter(letter)) return BAD;
        int found = BAD;
        for (String w : states.get(s).words) {
            int to = stateOf(w + (char) (97 + letter));
            if (found != BAD && found != to) throw new IllegalStateException("words of one state part at a letter");
            found = to;
        }
        return found;
    }

    int end(int s, int i) {
        if (!isState(s) || i < 0) return BAD;
        return i < endsOf(s).size() ? endsOf(s).get(i) : NONE;
    }

    int sheet(int s, int many) {
        if (!isSheet(s) || many < 0 || many > 64) return BAD;
        return put(s, "a".repeat(many));
    }

    int set(int s, int i, int v) {
        if (!isSheet(s) || v < 0 || v > 65535) return BAD;
        if (sheets[s] == null) return NULL;
        if (i < 0 || i >= sheets[s].length()) return PLACE;
        char[] row = sheets[s].toCharArray();
        int was = row[i];
        row[i] = (char) v;
        sheets[s] = new String(row);
        return was;
    }

    int get(int s, int i) {
        if (!isSheet(s)) return BAD;
        if (sheets[s] == null) return NULL;
        return i < 0 || i >= sheets[s].length() ? PLACE : sheets[s].charAt(i);
    }

    int size(int s) {
        if (!isSheet(s)) return BAD;
        return sheets[s] == null ? NULL : sheets[s].length();
    }

    int drop(int s) {
        int had = size(s);
        if (had >= 0) sheets[s] = null;
        return had;
    }

    int walk(int s) {
        if (!isSheet(s)) return BAD;
        return sheets[s] == null ? NULL : stateOf(sheets[s]);
    }

    int times(int s, int what) {
        if (!isSheet(s) || what < 0 || what > 2) return BAD;
        if (sheets[s] == null) return NULL;
        List<Integer> ends = words.get(sheets[s]);
        if (ends == null) return what == 0 ? 0 : NONE;
        return what == 0 ? ends.size() : what == 1 ? ends.get(0) : ends.get(ends.size() - 1);
    }

    private List<String> inOrder() {
        List<String> row = new ArrayList<>(words.keySet());
        row.remove("");
        return row;
    }

    int kth(int i, int s) {
        if (i < 0 || !isSheet(s)) return BAD;
        List<String> row = inOrder();
        return i < row.size() ? put(s, row.get(i)) : NONE;
    }

    int rank(int s) {
        if (!isSheet(s)) return BAD;
        if (sheets[s] == null) return NULL;
        int found = inOrder().indexOf(sheets[s]);
        return found < 0 ? NONE : found;
    }

    int absent(int s) {
        if (!isSheet(s)) return BAD;
        List<String> rows = List.of("");
        while (true) {
            List<String> longer = new ArrayList<>();
            for (String row : rows) {
                for (int c = 0; c < k; c++) {
                    String w = row + (char) (97 + c);
                    if (!words.containsKey(w)) return put(s, w);
                    longer.add(w);
                }
            }
            rows = longer;
        }
    }

    int missing(int many) {
        if (many < 0 || many > 60) return BAD;
        BigInteger rows = BigInteger.valueOf(k).pow(many);
        if (rows.compareTo(GREATEST) > 0) return MUCH;
        int there = 0;
        for (String w : words.keySet()) if (w.length() == many) there++;
        return rows.intValue() - there;
    }

    int often(int many, int s) {
        if (many < 1 || !isSheet(s)) return BAD;
        String found = null;
        for (Map.Entry<String, List<Integer>> w : words.entrySet()) {
            boolean fits = w.getValue().size() >= many;
            if (fits && (found == null || w.getKey().length() > found.length())) found = w.getKey();
        }
        return found == null ? NONE : put(s, found);
    }

    int twice(int many) {
        if (many < 1 || many > 60) return BAD;
        for (int i = 1; i <= n(); i++) {
            for (Map.Entry<String, List<Integer>> w : words.entrySet()) {
                List<Integer> ends = w.getValue();
                if (w.getKey().length() == many && ends.size() > 1 && ends.get(1) <= i) return i;
            }
        }
        return NONE;
    }

    int unlike(int many) {
        if (many < 0 || many > n()) return BAD;
        return wordsOf(text.substring(0, many)).size() - 1;
    }

    int single(int s) {
        if (!isSheet(s)) return BAD;
        String found = null;
        for (Map.Entry<String, List<Integer>> w : words.entrySet()) {
            boolean fits = w.getValue().size() == 1;
            if (fits && (found == null || w.getKey().length() < found.length())) found = w.getKey();
        }
        return put(s, found);
    }

    private static int widest(List<Integer> ends) {
        int found = NONE;
        for (int i = 1; i < ends.size(); i++) found = Math.max(found, ends.get(i) - ends.get(i - 1));
        return found;
    }

    int gap(int s) {
        if (!isSheet(s)) return BAD;
        if (sheets[s] == null) return NULL;
        List<Integer> ends = words.get(sheets[s]);
        return ends == null ? NONE : widest(ends);
    }

    int cover() {
        for (int m = 1; m <= n(); m++) {
            String w = text.substring(0, m);
            if (text.endsWith(w) && widest(words.get(w)) <= m) return m;
        }
        return NONE;
    }

    int part(int i) {
        if (i < 0) return BAD;
        return i < parts().size() ? parts().get(i) : NONE;
    }

    int common(int s, int what) {
        if (!isSheet(s) || what < 0 || what > 1) return BAD;
        if (sheets[s] == null) return NULL;
        for (int m = sheets[s].length(); m > 0; m--) {
            for (int at = 0; at + m <= sheets[s].length(); at++) {
                if (words.containsKey(sheets[s].substring(at, at + m))) return what == 0 ? m : at;
            }
        }
        return 0;
    }

    int border(int i) {
        if (i < 0) return BAD;
        List<Integer> found = new ArrayList<>();
        for (int m = n() - 1; m > 0; m--) if (text.endsWith(text.substring(0, m))) found.add(m);
        return i < found.size() ? found.get(i) : NONE;
    }

    int next(int many) {
        if (many < 0 || many > n()) return BAD;
        Map<Integer, Integer> tally = new HashMap<>();
        for (int e : words.get(text.substring(n() - many))) if (e < n()) tally.merge(letter(e), 1, Integer::sum);
        int best = NONE;
        for (int c = 0; c < k; c++) {
            if (tally.containsKey(c) && (best == NONE || tally.get(c) > tally.get(best))) best = c;
        }
        return best;
    }

    int worth(int v) {
        if (v < 1 || v > 9) return BAD;
        BigInteger sum = BigInteger.ZERO;
        for (String w : inOrder()) sum = sum.add(BigInteger.valueOf(v).pow(w.length()));
        return sum.compareTo(GREATEST) > 0 ? MUCH : sum.intValue();
    }

    int keep(int i) {
        if (i < 0 || i > 1) return BAD;
        keptKinds[i] = k;
        keptTexts[i] = text;
        return n();
    }

    int goBack(int i) {
        if (i < 0 || i > 1) return BAD;
        if (keptTexts[i] == null) return NOT;
        startWith(keptKinds[i], keptTexts[i]);
        return n();
    }
}
