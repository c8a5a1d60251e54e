/** Asks everything there is to ask of one text, of the class and of the plain one, on as many objects as it takes. */
final class Questions {
    private final int k;
    private final String text;
    private Pair pair;

    Questions(int k, String text) {
        this.k = k;
        this.text = text;
        this.pair = grown();
    }

    private Pair grown() {
        Pair fresh = new Pair();
        fresh.ask("begin", k, 0, 0);
        for (char c : text.toCharArray()) fresh.ask("grow", c - 'a', 0, 0);
        return fresh;
    }

    private void needRoomFor(int calls) {
        if (pair.callsLeft() < calls) pair = grown();
    }

    private int ask(String call, int a, int b) {
        needRoomFor(1);
        return pair.ask(call, a, b, 0);
    }

    void askAll() {
        askStates();
        askWords();
        askSheets();
    }

    private void askStates() {
        int states = ask("count", 2, 0);
        for (int s = 0; s < states; s++) {
            for (int what = 0; what <= 6; what++) ask("state", s, what);
            for (int c = 0; c < k; c++) ask("move", s, c);
            int ends = ask("state", s, 3);
            for (int i = 0; i <= ends; i++) ask("end", s, i);
        }
    }

    private void askWords() {
        int n = text.length();
        for (int what = 0; what <= 10; what++) ask("count", what, 0);
        for (int i = 0; i <= n; i++) {
            ask("letter", i, 0);
            ask("missing", i, 0);
            ask("twice", i + 1, 0);
            ask("unlike", i, 0);
            ask("part", i, 0);
            ask("border", i, 0);
            ask("next", i, 0);
        }
        for (int v = 1; v <= 9; v++) ask("worth", v, 0);
        ask("cover", 0, 0);
    }

    private void askSheets() {
        int n = text.length();
        readBehind("absent", 0, 0, 0);
        ask("common", 0, 0);
        ask("common", 0, 1);
        readBehind("single", 1, 0, 1);
        for (int many = 1; many <= n + 2; many = many < 8 ? many + 1 : many + 5) readBehind("often", many, 2, 2);
        readBehind("often", n + 1, 2, 2);
        int words = ask("count", 5, 0);
        int step = 1 + words / 60;
        for (int i = 0; i <= words; i += step) askWord(i);
        askWord(words - 1);
        askWord(words);
    }

    private void readBehind(String call, int a, int b, int s) {
        needRoomFor(80);
        int size = pair.ask(call, a, b, 0);
        for (int i = 0; i < size; i++) pair.ask("get", s, i, 0);
        pair.ask("size", s, 0, 0);
    }

    private void askWord(int i) {
        needRoomFor(90);
        readBehind("kth", i, 3, 3);
        pair.ask("walk", 3, 0, 0);
        pair.ask("rank", 3, 0, 0);
        for (int what = 0; what <= 2; what++) pair.ask("times", 3, what, 0);
        pair.ask("gap", 3, 0, 0);
        pair.ask("common", 3, 0, 0);
    }
}
