import java.util.Random;

/** Texts of up to 60 letters of many makes, asked everything there is to ask of them, against the plain class. */
public final class LongTextsTest {
    public static void main(String[] args) {
        ask(1, "a".repeat(60));
        ask(5, "a".repeat(60));
        ask(2, "a" + "b".repeat(59));                 // the most states that 60 letters can have
        ask(3, "a" + "b".repeat(58) + "c");           // the most moves
        ask(2, "ab".repeat(30));
        ask(3, "abc".repeat(20));
        ask(2, "a".repeat(29) + "b" + "a".repeat(29));
        ask(2, "aab".repeat(19) + "aa");
        ask(2, fibonacci());
        ask(2, doubling());
        ask(2, "aababbaababbabaabaababbaababaabaababbaababbaababbabaab");
        ask(5, "abcdeabcdeedcba".repeat(4));
        ask(4, "dabdabcabdad".repeat(5));
        Random random = new Random(60);
        for (int k = 2; k <= 5; k++) {
            for (int n = 56; n <= 60; n += 2) ask(k, mixed(random, k, n));
            ask(k, copied(random, k));
        }
        Pair.finish("LongTextsTest");
    }

    private static void ask(int k, String text) {
        new Questions(k, text).askAll();
    }

    private static String fibonacci() {
        String shorter = "a";
        String longer = "ab";
        while (longer.length() < 60) {
            String next = longer + shorter;
            shorter = longer;
            longer = next;
        }
        return longer.substring(0, 60);
    }

    private static String doubling() {
        StringBuilder row = new StringBuilder();
        for (int i = 0; i < 60; i++) row.append(Integer.bitCount(i) % 2 == 0 ? 'a' : 'b');
        return row.toString();
    }

    private static String mixed(Random random, int k, int n) {
        StringBuilder row = new StringBuilder();
        for (int i = 0; i < n; i++) row.append((char) ('a' + random.nextInt(k)));
        return row.toString();
    }

    /** Made of pieces of itself, so that many words come again. */
    private static String copied(Random random, int k) {
        StringBuilder row = new StringBuilder("a");
        while (row.length() < 60) {
            int from = random.nextInt(row.length());
            int many = 1 + random.nextInt(8);
            for (int i = 0; i < many && row.length() < 60; i++) row.append(row.charAt(from + i));
            if (row.length() < 60 && random.nextInt(2) == 0) row.append((char) ('a' + random.nextInt(k)));
        }
        return row.toString();
    }
}
