/** Every text of a few letters, asked everything there is to ask of it, against the plain class. */
public final class ShortTextsTest {
    private static final int[] MOST_LETTERS = {0, 9, 7, 5, 4, 3};

    public static void main(String[] args) {
        for (int k = 1; k <= 5; k++) askAllFrom(k, "");
        Pair.finish("ShortTextsTest");
    }

    private static void askAllFrom(int k, String text) {
        new Questions(k, text).askAll();
        if (text.length() == MOST_LETTERS[k]) return;
        for (int c = 0; c < k; c++) askAllFrom(k, text + (char) ('a' + c));
    }
}
