/** What the tests of the document's sentences have in common: its answers, texts of the most letters, how to go on. */
abstract class Boundaries {
    static final int BAD = -1, NOT = -2, FULL = -3, NONE = -4, NULL = -11, PLACE = -12, MUCH = -13;
    static final int LEAST = Integer.MIN_VALUE, MOST = Integer.MAX_VALUE;
    static final String A59 = "text:" + "a".repeat(59);
    static final String A60 = "text:" + "a".repeat(60);
    /** The most states that a text can have. */
    static final String AB60 = "text:a" + "b".repeat(59);

    private static String sentence = "";
    private static int checks = 0;
    private static int wrong = 0;

    /** The words of the document that the checks behind this hold to; what is added to them stands in brackets. */
    static void sentence(String words) {
        sentence = words;
    }

    static Way on(String calls) {
        return new Way(calls);
    }

    static void check(boolean holds, String what) {
        checks++;
        if (holds) return;
        wrong++;
        System.out.println("\"" + sentence + "\": " + what);
    }

    static void finish(String test) {
        System.out.println(test + ": " + checks + " checks, " + wrong + " wrong");
        if (wrong != 0 || checks == 0) System.exit(1);
    }
}
