/** Every text of a few letters, asked everything there is to ask of it, against the plain class. */
public final class ShortTextsTest {
    private static final int[] MOST_LETTERS = {0, 9, 7, 5, 4, 3};

    public static void main(String[] args) {
        for (int k = 1; k <= 5; k++) {
            for (int n = 0; n <= MOST_LETTERS[k]; n++) {
                int texts = power(k, n);
                for (int number = 0; number < texts; number++) {
                    askStates(grown(k, n, number), k, n);
                    askWords(grown(k, n, number), n);
                    askSheets(grown(k, n, number), k);
                }
            }
        }
        Pair.finish("ShortTextsTest");
    }

    private static int power(int k, int n) {
        int product = 1;
        for (int i = 0; i < n; i++) product *= k;
        return product;
    }

    private static Pair grown(int k, int n, int number) {
        Pair pair = new Pair();
        pair.ask("begin", k, 0, 0);
        int rest = number;
        for (int i = 0; i < n; i++) {
            pair.ask("grow", rest % k, 0, 0);
            rest /= k;
        }
        return pair;
    }

    private static void askStates(Pair pair, int k, int n) {
        int states = pair.ask("count", 2, 0, 0);
        for (int s = 0; s < states; s++) {
            for (int what = 0; what <= 6; what++) pair.ask("state", s, what, 0);
            for (int c = 0; c < k; c++) pair.ask("move", s, c, 0);
            for (int i = 0; i <= n + 1; i++) pair.ask("end", s, i, 0);
        }
    }

    private static void askWords(Pair pair, int n) {
        for (int what = 0; what <= 10; what++) pair.ask("count", what, 0, 0);
        for (int i = 0; i <= n; i++) {
            pair.ask("letter", i, 0, 0);
            pair.ask("missing", i, 0, 0);
            pair.ask("twice", i + 1, 0, 0);
            pair.ask("unlike", i, 0, 0);
            pair.ask("part", i, 0, 0);
            pair.ask("border", i, 0, 0);
            pair.ask("next", i, 0, 0);
        }
        for (int v = 1; v <= 9; v++) pair.ask("worth", v, 0, 0);
        pair.ask("cover", 0, 0, 0);
    }

    private static void askSheets(Pair pair, int k) {
        askSheet(pair, pair.ask("absent", 0, 0, 0), 0);
        askSheet(pair, pair.ask("single", 1, 0, 0), 1);
        for (int many = 1; many <= 4; many++) askSheet(pair, pair.ask("often", many, 2, 0), 2);
        int words = pair.ask("count", 5, 0, 0);
        for (int i = 0; i <= Math.min(words, 28); i++) {
            askSheet(pair, pair.ask("kth", i, 3, 0), 3);
            pair.ask("walk", 3, 0, 0);
            pair.ask("rank", 3, 0, 0);
            for (int what = 0; what <= 2; what++) pair.ask("times", 3, what, 0);
            pair.ask("gap", 3, 0, 0);
        }
        pair.ask("common", 0, 0, 0);
        pair.ask("common", 0, 1, 0);
    }

    private static void askSheet(Pair pair, int size, int s) {
        for (int i = 0; i < size; i++) pair.ask("get", s, i, 0);
        pair.ask("size", s, 0, 0);
    }
}
