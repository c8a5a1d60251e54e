/** Each promise of the document in its turn: ordinary inputs, the edges that it names, wrong inputs; worked out by hand. */
public final class PromisesTest {
    private static final int BAD = -1, NOT = -2, FULL = -3, NONE = -4, NULL = -11, PLACE = -12, MUCH = -13;
    private static final int LEAST = Integer.MIN_VALUE, MOST = Integer.MAX_VALUE;
    private static int promise = 0;
    private static int wrong = 0;

    private static void due(String call, int got, int want) {
        if (got == want) return;
        wrong++;
        System.out.println("promise " + promise + ": " + call + " answered " + got + ", due is " + want);
    }

    private static void due(String call, String got, String want) {
        if (got.equals(want)) return;
        wrong++;
        System.out.println("promise " + promise + ": " + call + " is \"" + got + "\", due is \"" + want + "\"");
    }

    private static GrowingText of(int k, String letters) {
        GrowingText x = new GrowingText();
        x.begin(k);
        for (char c : letters.toCharArray()) x.grow(c - 'a');
        return x;
    }

    private static void write(GrowingText x, int s, String row) {
        x.sheet(s, row.length());
        for (int i = 0; i < row.length(); i++) x.set(s, i, row.charAt(i));
    }

    private static String read(GrowingText x, int s) {
        StringBuilder row = new StringBuilder();
        for (int i = 0; i < x.size(s); i++) row.append((char) x.get(s, i));
        return row.toString();
    }

    private static String text(GrowingText x) {
        StringBuilder row = new StringBuilder();
        for (int i = 0; i < x.count(1); i++) row.append((char) (97 + x.letter(i)));
        return row.toString();
    }

    public static void main(String[] args) {
        promise = 1; newObject();
        promise = 2; begin();
        promise = 3; grow();
        promise = 4; growBy();
        promise = 5; cut();
        promise = 6; drift();
        promise = 7; letter();
        promise = 8; count();
        promise = 9; state();
        promise = 10; move();
        promise = 11; end();
        promise = 12; sheet();
        promise = 13; set();
        promise = 14; get();
        promise = 15; size();
        promise = 16; drop();
        promise = 17; walk();
        promise = 18; times();
        promise = 19; kth();
        promise = 20; rank();
        promise = 21; absent();
        promise = 22; missing();
        promise = 23; often();
        promise = 24; twice();
        promise = 25; unlike();
        promise = 26; single();
        promise = 27; gap();
        promise = 28; cover();
        promise = 29; part();
        promise = 30; common();
        promise = 31; border();
        promise = 32; next();
        promise = 33; worth();
        promise = 34; keep();
        promise = 35; goBack();
        System.out.println("PromisesTest: " + (wrong == 0 ? "all answers are as due" : wrong + " wrong answers"));
        if (wrong != 0) System.exit(1);
    }

    private static void newObject() {
        GrowingText x = new GrowingText();
        due("K", x.count(0), 2);
        due("letters", x.count(1), 0);
        due("states", x.count(2), 1);
        due("sheets", x.count(9), 0);
        for (int s = 0; s < 4; s++) due("size", x.size(s), NULL);
        for (int i = 0; i < 2; i++) due("goBack", x.goBack(i), NOT);
        x.grow(1);
        x.sheet(0, 3);
        x.keep(0);
        GrowingText y = new GrowingText();
        due("letters of another object", y.count(1), 0);
        due("sheets of another object", y.count(9), 0);
        due("images of another object", y.goBack(0), NOT);
    }

    private static void begin() {
        GrowingText x = of(2, "abba");
        x.sheet(1, 5);
        x.keep(1);
        due("begin(0)", x.begin(0), BAD);
        due("begin(6)", x.begin(6), BAD);
        due("begin(least)", x.begin(LEAST), BAD);
        due("begin(most)", x.begin(MOST), BAD);
        due("text", text(x), "abba");
        due("K", x.count(0), 2);
        due("begin(5)", x.begin(5), 4);
        due("K", x.count(0), 5);
        due("letters", x.count(1), 0);
        due("states", x.count(2), 1);
        due("ends of 0", x.state(0, 3), 1);
        due("move(0, 0)", x.move(0, 0), NONE);
        due("sheet stays", x.size(1), 5);
        due("image stays", x.goBack(1), 4);
        due("begin(1)", x.begin(1), 4);
        due("begin(1) again", x.begin(1), 0);
        due("grow(1) of one letter", x.grow(1), BAD);
    }

    private static void grow() {
        GrowingText x = of(3, "");
        due("grow(0)", x.grow(0), 2);
        due("grow(1)", x.grow(1), 3);
        due("grow(1), with a clone", x.grow(1), 5);
        due("grow(3)", x.grow(3), BAD);
        due("grow(-1)", x.grow(-1), BAD);
        due("grow(most)", x.grow(MOST), BAD);
        due("text", text(x), "abb");
        due("grow(2)", x.grow(2), 6);
        GrowingText full = of(2, "a" + "b".repeat(59));
        due("most states", full.count(2), 119);
        due("grow(0) at 60", full.grow(0), FULL);
        due("grow(2) at 60", full.grow(2), BAD);
        due("states stay", full.count(2), 119);
    }

    private static void growBy() {
        GrowingText x = of(3, "ab");
        due("missing", x.growBy(0), NULL);
        due("growBy(4)", x.growBy(4), BAD);
        due("growBy(-1)", x.growBy(-1), BAD);
        write(x, 0, "cab");
        due("growBy", x.growBy(0), 5);
        due("text", text(x), "abcab");
        due("states", x.count(2), of(3, "abcab").count(2));
        due("sheet stays", read(x, 0), "cab");
        write(x, 1, "abd");
        due("d is no letter", x.growBy(1), NOT);
        write(x, 1, "`ab");
        due("96 is no letter", x.growBy(1), NOT);
        write(x, 1, "A");
        due("65 is no letter", x.growBy(1), NOT);
        due("text stays", text(x), "abcab");
        x.sheet(2, 0);
        due("empty sheet", x.growBy(2), 5);
        x.sheet(2, 56);
        due("no room for 56", x.growBy(2), FULL);
        due("text stays", text(x), "abcab");
        x.set(2, 55, 100);
        due("no letter goes ahead of no room", x.growBy(2), NOT);
        x.sheet(2, 55);
        due("room for 55", x.growBy(2), 60);
        due("states as grown one by one", x.count(2), of(3, "abcab" + "a".repeat(55)).count(2));
        x.sheet(2, 0);
        due("empty sheet at 60", x.growBy(2), 60);
        x.sheet(2, 1);
        due("one at 60", x.growBy(2), FULL);
    }

    private static void cut() {
        GrowingText x = of(2, "abbab");
        due("cut(-1)", x.cut(-1), BAD);
        due("cut(6)", x.cut(6), BAD);
        due("cut(least)", x.cut(LEAST), BAD);
        due("cut(0)", x.cut(0), 5);
        due("states", x.count(2), 7);
        due("cut(3)", x.cut(3), 2);
        due("text", text(x), "ab");
        due("states without the clone", x.count(2), 3);
        due("clones", x.count(3), 0);
        due("move(0, b)", x.move(0, 1), 2);
        due("ends of b", x.state(2, 3), 1);
        due("shortest of ab", x.state(2, 1), 1);
        due("grow(1)", x.grow(1), 5);
        due("the clone is of", x.state(4, 6), 2);
        due("cut(3)", x.cut(3), 0);
        due("states", x.count(2), 1);
        due("move(0, a)", x.move(0, 0), NONE);
        due("cut(0) of none", x.cut(0), 0);
        due("cut(1) of none", x.cut(1), BAD);
    }

    private static void drift() {
        GrowingText x = of(5, "e");
        // 16807, 282475249, 1622650073, 984943658, 1144108930
        due("drift(5, 1)", x.drift(5, 1), 6);
        due("text", text(x), "ecedda");
        due("drift(0, 1)", x.drift(0, 1), BAD);
        due("drift(61, 1)", x.drift(61, 1), BAD);
        due("drift(1, 0)", x.drift(1, 0), BAD);
        due("drift(1, 1000000)", x.drift(1, 1000000), BAD);
        due("drift(-1, -1)", x.drift(-1, -1), BAD);
        due("drift(55, 1)", x.drift(55, 1), FULL);
        due("bad goes ahead of full", x.drift(55, 0), BAD);
        due("letters stay", x.count(1), 6);
        due("drift(54, 999999)", x.drift(54, 999999), 60);
        // 999999 times 16807, left over by 2147483647
        due("letter 6", x.letter(6), (int) (999999L * 16807L % 2147483647L % 5));
        due("drift(1, 1)", x.drift(1, 1), FULL);
        GrowingText two = of(2, "");
        due("drift(60, 1)", two.drift(60, 1), 60);
        due("text of two letters", text(two).substring(0, 5), "bbbaa");
    }

    private static void letter() {
        GrowingText x = of(3, "cab");
        due("letter(0)", x.letter(0), 2);
        due("letter(1)", x.letter(1), 0);
        due("letter(2)", x.letter(2), 1);
        due("letter(3)", x.letter(3), PLACE);
        due("letter(-1)", x.letter(-1), PLACE);
        due("letter(most)", x.letter(MOST), PLACE);
        due("letter(least)", x.letter(LEAST), PLACE);
        x.cut(1);
        due("letter(2) taken off", x.letter(2), PLACE);
        due("letter(0) of none", new GrowingText().letter(0), PLACE);
    }

    private static void count() {
        GrowingText x = of(3, "abbab");
        int[] want = {3, 5, 7, 1, 8, 11, 2, 3, 30, 0, 4};
        for (int what = 0; what <= 10; what++) due("count(" + what + ")", x.count(what), want[what]);
        int[] none = {2, 0, 1, 0, 0, 0, NONE, NONE, 0, 0, 0};
        for (int what = 0; what <= 10; what++) due("count(" + what + ")", new GrowingText().count(what), none[what]);
        int[] one = {2, 1, 2, 0, 1, 1, 0, 1, 1, 0, 1};
        for (int what = 0; what <= 10; what++) due("count(" + what + ")", of(2, "b").count(what), one[what]);
        due("count(-1)", x.count(-1), BAD);
        due("count(11)", x.count(11), BAD);
        due("count(most)", x.count(MOST), BAD);
        x.sheet(0, 0);
        x.sheet(3, 4);
        due("two sheets", x.count(9), 2);
        x.drop(0);
        due("one sheet", x.count(9), 1);
        due("period of a text that has none", of(2, "aab").count(7), 3);
        due("again of a text that has none", of(2, "aab").count(6), 0);
        due("lengths of 60 like ones", of(1, "a".repeat(60)).count(8), 1830);
        due("most moves", of(3, "a" + "b".repeat(58) + "c").count(4), 176);
    }

    private static void state() {
        // 0 empty, 1 a, 2 ab, 3 abb bb, 4 b (of 2), 5 abba bba ba, 6 abbab bbab bab
        GrowingText x = of(2, "abbab");
        int[][] want = {
            {0, 0, NONE, 6, 0, 0, NONE}, {1, 1, 0, 2, 1, 1, NONE}, {2, 2, 4, 2, 2, 2, NONE}, {3, 2, 4, 1, 3, 3, NONE},
            {1, 1, 0, 3, 2, 3, 2}, {4, 2, 1, 1, 4, 4, NONE}, {5, 3, 2, 1, 5, 5, NONE}};
        for (int s = 0; s < want.length; s++) {
            for (int what = 0; what <= 6; what++) due("state(" + s + ", " + what + ")", x.state(s, what), want[s][what]);
        }
        due("state(7, 0)", x.state(7, 0), BAD);
        due("state(-1, 0)", x.state(-1, 0), BAD);
        due("state(most, 0)", x.state(MOST, 0), BAD);
        due("state(0, 7)", x.state(0, 7), BAD);
        due("state(0, -1)", x.state(0, -1), BAD);
        x.cut(3);
        due("state(3, 0) taken off", x.state(3, 0), BAD);
    }

    private static void move() {
        GrowingText x = of(2, "abbab");
        int[][] want = {{1, 4}, {NONE, 2}, {NONE, 3}, {5, NONE}, {5, 3}, {NONE, 6}, {NONE, NONE}};
        for (int s = 0; s < want.length; s++) {
            for (int c = 0; c < 2; c++) due("move(" + s + ", " + c + ")", x.move(s, c), want[s][c]);
        }
        due("move(7, 0)", x.move(7, 0), BAD);
        due("move(-1, 0)", x.move(-1, 0), BAD);
        due("move(0, 2)", x.move(0, 2), BAD);
        due("move(0, -1)", x.move(0, -1), BAD);
        due("move(most, most)", x.move(MOST, MOST), BAD);
    }

    private static void end() {
        GrowingText x = of(2, "abbab");
        int[] want = {2, 3, 5, NONE};
        for (int i = 0; i < want.length; i++) due("end(4, " + i + ")", x.end(4, i), want[i]);
        for (int i = 0; i <= 5; i++) due("end(0, " + i + ")", x.end(0, i), i);
        due("end(0, 6)", x.end(0, 6), NONE);
        due("end(0, most)", x.end(0, MOST), NONE);
        due("end(0, -1)", x.end(0, -1), BAD);
        due("end(7, 0)", x.end(7, 0), BAD);
        due("end(-1, 0)", x.end(-1, 0), BAD);
        due("the last of 61", of(1, "a".repeat(60)).end(0, 60), 60);
    }

    private static void sheet() {
        GrowingText x = new GrowingText();
        due("sheet(0, 3)", x.sheet(0, 3), 3);
        due("characters", read(x, 0), "aaa");
        due("sheet(3, 64)", x.sheet(3, 64), 64);
        due("last character", x.get(3, 63), 97);
        x.set(0, 1, 200);
        due("sheet(0, 2) anew", x.sheet(0, 2), 2);
        due("characters", read(x, 0), "aa");
        due("sheet(1, 0)", x.sheet(1, 0), 0);
        due("an empty one is there", x.size(1), 0);
        due("sheet(4, 0)", x.sheet(4, 0), BAD);
        due("sheet(-1, 0)", x.sheet(-1, 0), BAD);
        due("sheet(0, 65)", x.sheet(0, 65), BAD);
        due("sheet(0, -1)", x.sheet(0, -1), BAD);
        due("sheet stays", x.size(0), 2);
        due("sheet 2 is missing", x.size(2), NULL);
    }

    private static void set() {
        GrowingText x = new GrowingText();
        due("missing", x.set(0, 0, 97), NULL);
        due("bad goes ahead of missing", x.set(0, 0, 65536), BAD);
        x.sheet(0, 2);
        due("set(0, 0, 0)", x.set(0, 0, 0), 97);
        due("set(0, 0, 65535)", x.set(0, 0, 65535), 0);
        due("set(0, 0, 5)", x.set(0, 0, 5), 65535);
        due("the other one", x.get(0, 1), 97);
        due("set(0, 2, 97)", x.set(0, 2, 97), PLACE);
        due("set(0, -1, 97)", x.set(0, -1, 97), PLACE);
        due("set(0, most, 97)", x.set(0, MOST, 97), PLACE);
        due("bad goes ahead of place", x.set(0, 2, -1), BAD);
        due("set(0, 0, 65536)", x.set(0, 0, 65536), BAD);
        due("set(4, 0, 97)", x.set(4, 0, 97), BAD);
        due("set(-1, 0, 97)", x.set(-1, 0, 97), BAD);
        due("stays", x.get(0, 0), 5);
        x.sheet(0, 0);
        due("no place in an empty one", x.set(0, 0, 97), PLACE);
    }

    private static void get() {
        GrowingText x = new GrowingText();
        due("missing", x.get(0, 0), NULL);
        due("missing, with no such place", x.get(0, -1), NULL);
        write(x, 0, "xyz");
        due("get(0, 0)", x.get(0, 0), 'x');
        due("get(0, 2)", x.get(0, 2), 'z');
        due("get(0, 3)", x.get(0, 3), PLACE);
        due("get(0, -1)", x.get(0, -1), PLACE);
        due("get(0, least)", x.get(0, LEAST), PLACE);
        due("get(4, 0)", x.get(4, 0), BAD);
        due("get(-1, 0)", x.get(-1, 0), BAD);
        x.sheet(0, 1);
        due("get(0, 1) of a shorter one", x.get(0, 1), PLACE);
    }

    private static void size() {
        GrowingText x = new GrowingText();
        due("missing", x.size(2), NULL);
        x.sheet(2, 7);
        due("size(2)", x.size(2), 7);
        due("size(4)", x.size(4), BAD);
        due("size(-1)", x.size(-1), BAD);
        x.drop(2);
        due("missing again", x.size(2), NULL);
    }

    private static void drop() {
        GrowingText x = new GrowingText();
        due("missing", x.drop(1), NULL);
        x.sheet(1, 9);
        x.sheet(2, 0);
        due("drop(1)", x.drop(1), 9);
        due("drop(1) again", x.drop(1), NULL);
        due("get", x.get(1, 0), NULL);
        due("set", x.set(1, 0, 97), NULL);
        due("growBy", x.growBy(1), NULL);
        due("drop(2)", x.drop(2), 0);
        due("drop(4)", x.drop(4), BAD);
        due("drop(-1)", x.drop(-1), BAD);
    }

    private static void walk() {
        GrowingText x = of(2, "abbab");
        due("missing", x.walk(0), NULL);
        due("walk(4)", x.walk(4), BAD);
        due("walk(-1)", x.walk(-1), BAD);
        String[] rows = {"", "a", "b", "ab", "bb", "abb", "ba", "bba", "abba", "abbab", "bab", "aa", "abbaba", "c", "ac", "`"};
        int[] want = {0, 1, 4, 2, 3, 3, 5, 5, 5, 6, 6, NONE, NONE, NONE, NONE, NONE};
        for (int i = 0; i < rows.length; i++) {
            write(x, 0, rows[i]);
            due("walk of " + rows[i], x.walk(0), want[i]);
        }
        x.sheet(1, 64);
        due("longer than the text", of(1, "a".repeat(60)).walk(1), NULL);
        due("longer than the text", x.walk(1), NONE);
    }

    private static void times() {
        GrowingText x = of(2, "abbab");
        due("missing", x.times(0, 0), NULL);
        due("bad goes ahead of missing", x.times(0, 3), BAD);
        due("times(4, 0)", x.times(4, 0), BAD);
        due("times(0, -1)", x.times(0, -1), BAD);
        String[] rows = {"b", "ab", "", "aa", "abbab", "z"};
        int[][] want = {{3, 2, 5}, {2, 2, 5}, {6, 0, 5}, {0, NONE, NONE}, {1, 5, 5}, {0, NONE, NONE}};
        for (int i = 0; i < rows.length; i++) {
            write(x, 0, rows[i]);
            for (int what = 0; what <= 2; what++) due("times of " + rows[i], x.times(0, what), want[i][what]);
        }
    }

    private static void kth() {
        GrowingText x = of(2, "abbab");
        String[] want = {"a", "ab", "abb", "abba", "abbab", "b", "ba", "bab", "bb", "bba", "bbab"};
        for (int i = 0; i < want.length; i++) {
            due("kth(" + i + ", 0)", x.kth(i, 0), want[i].length());
            due("word " + i, read(x, 0), want[i]);
        }
        due("kth(11, 0)", x.kth(11, 0), NONE);
        due("kth(most, 0)", x.kth(MOST, 0), NONE);
        due("kth(-1, 0)", x.kth(-1, 0), BAD);
        due("kth(0, 4)", x.kth(0, 4), BAD);
        due("bad goes ahead of none", x.kth(11, -1), BAD);
        due("sheet stays", read(x, 0), "bbab");
        due("none comes to no sheet", x.kth(11, 1), NONE);
        due("sheet 1 is missing", x.size(1), NULL);
        due("of no letters", new GrowingText().kth(0, 0), NONE);
        x.cut(3);
        due("kth(2, 0) of ab", x.kth(2, 0), 1);
        due("word 2 of ab", read(x, 0), "b");
        x.grow(0);
        due("kth(2, 0) of aba", x.kth(2, 0), 3);
        due("word 2 of aba", read(x, 0), "aba");
        due("kth(4, 0) of aba", x.kth(4, 0), 2);
        due("word 4 of aba", read(x, 0), "ba");
    }

    private static void rank() {
        GrowingText x = of(2, "abbab");
        due("missing", x.rank(0), NULL);
        due("rank(4)", x.rank(4), BAD);
        due("rank(-1)", x.rank(-1), BAD);
        String[] rows = {"a", "abbab", "b", "ba", "bb", "bbab", "", "aa", "bc", "abbaba"};
        int[] want = {0, 4, 5, 6, 8, 10, NONE, NONE, NONE, NONE};
        for (int i = 0; i < rows.length; i++) {
            write(x, 0, rows[i]);
            due("rank of " + rows[i], x.rank(0), want[i]);
        }
        due("sheet stays", read(x, 0), "abbaba");
        x.grow(0);
        due("rank of abbaba, that is a word by now", x.rank(0), 6);
        x.begin(2);
        due("rank of abbaba in no letters", x.rank(0), NONE);
    }

    private static void absent() {
        String[] texts = {"", "a", "b", "ab", "abba", "aabba", "aaabba"};
        String[] want = {"a", "b", "a", "aa", "aa", "aaa", "aba"};
        for (int i = 0; i < texts.length; i++) {
            GrowingText x = of(2, texts[i]);
            x.sheet(0, 40);
            due("absent of " + texts[i], x.absent(0), want[i].length());
            due("absent of " + texts[i], read(x, 0), want[i]);
        }
        GrowingText full = of(1, "a".repeat(60));
        due("absent of 60", full.absent(3), 61);
        due("absent of 60", read(full, 3), "a".repeat(61));
        due("absent(4)", full.absent(4), BAD);
        due("absent(-1)", full.absent(-1), BAD);
        due("a letter that was never there", of(5, "abcd").absent(0), 1);
        GrowingText grows = new GrowingText();
        for (int c = 0; c < 2; c++) grows.absent(grows.grow(c) - 2);
        due("absent of a", read(grows, 0), "b");
        due("absent of ab", read(grows, 1), "aa");
    }

    private static void missing() {
        GrowingText x = of(2, "abbab");
        int[] want = {0, 0, 1, 5, 14, 31, 64};
        for (int n = 0; n < want.length; n++) due("missing(" + n + ")", x.missing(n), want[n]);
        due("missing(30)", x.missing(30), 1073741824);
        due("missing(31)", x.missing(31), MUCH);
        due("missing(60)", x.missing(60), MUCH);
        due("missing(61)", x.missing(61), BAD);
        due("missing(-1)", x.missing(-1), BAD);
        due("one letter", of(1, "aaa").missing(3), 0);
        due("one letter", of(1, "aaa").missing(60), 1);
        due("three letters", of(3, "").missing(19), 1162261467);
        due("three letters", of(3, "").missing(20), MUCH);
        due("four letters", of(4, "").missing(15), 1073741824);
        due("four letters", of(4, "").missing(16), MUCH);
        due("five letters", of(5, "").missing(13), 1220703125);
        due("five letters", of(5, "").missing(14), MUCH);
    }

    private static void often() {
        GrowingText x = of(2, "abbab");
        String[] want = {null, "abbab", "ab", "b", "", "", ""};
        for (int n = 1; n <= 6; n++) {
            due("often(" + n + ", 0)", x.often(n, 0), want[n].length());
            due("often " + n, read(x, 0), want[n]);
        }
        write(x, 0, "kept");
        due("often(7, 0)", x.often(7, 0), NONE);
        due("often(most, 0)", x.often(MOST, 0), NONE);
        due("often(0, 0)", x.often(0, 0), BAD);
        due("often(-1, 0)", x.often(-1, 0), BAD);
        due("often(1, 4)", x.often(1, 4), BAD);
        due("often(7, -1)", x.often(7, -1), BAD);
        due("sheet stays", read(x, 0), "kept");
        GrowingText like = of(4, "cbdcbaabdab");
        due("often(2, 1)", like.often(2, 1), 2);
        due("of like ones the first", read(like, 1), "ab");
        GrowingText among = of(5, "cbcbabeabdede");
        due("often(2, 1)", among.often(2, 1), 2);
        due("of like ones neither the first nor the last there", read(among, 1), "ab");
    }

    private static void twice() {
        GrowingText x = of(2, "abbab");
        due("twice(1)", x.twice(1), 3);
        due("twice(2)", x.twice(2), 5);
        due("twice(3)", x.twice(3), NONE);
        due("twice(60)", x.twice(60), NONE);
        due("twice(0)", x.twice(0), BAD);
        due("twice(61)", x.twice(61), BAD);
        due("twice(least)", x.twice(LEAST), BAD);
        due("over one another", of(1, "aaaa").twice(3), 4);
        due("60 like ones", of(1, "a".repeat(60)).twice(59), 60);
        due("no letters", new GrowingText().twice(1), NONE);
    }

    private static void unlike() {
        GrowingText x = of(2, "abbab");
        int[] want = {0, 1, 3, 5, 8, 11};
        for (int n = 0; n <= 5; n++) due("unlike(" + n + ")", x.unlike(n), want[n]);
        due("unlike(6)", x.unlike(6), BAD);
        due("unlike(-1)", x.unlike(-1), BAD);
        due("unlike(most)", x.unlike(MOST), BAD);
        x.cut(2);
        due("unlike(3)", x.unlike(3), 5);
        due("unlike(4) taken off", x.unlike(4), BAD);
    }

    private static void single() {
        String[] texts = {"", "a", "aa", "abbab", "abcab", "ccbbaa", "abab", "cab", "bac"};
        String[] want = {"", "a", "aa", "ba", "c", "aa", "ba", "a", "a"};
        for (int i = 0; i < texts.length; i++) {
            GrowingText x = of(3, texts[i]);
            due("single of " + texts[i], x.single(2), want[i].length());
            due("single of " + texts[i], read(x, 2), want[i]);
        }
        due("single(4)", of(3, "ab").single(4), BAD);
        due("single(-1)", of(3, "ab").single(-1), BAD);
    }

    private static void gap() {
        GrowingText x = of(3, "abbabbbba");
        due("missing", x.gap(0), NULL);
        due("gap(4)", x.gap(4), BAD);
        due("gap(-1)", x.gap(-1), BAD);
        String[] rows = {"a", "b", "ab", "bb", "bba", "", "bbbb", "c", "aa", "z"};
        int[] want = {5, 2, 3, 3, 5, 1, NONE, NONE, NONE, NONE};
        for (int i = 0; i < rows.length; i++) {
            write(x, 0, rows[i]);
            due("gap of " + rows[i], x.gap(0), want[i]);
        }
        GrowingText none = new GrowingText();
        none.sheet(0, 0);
        due("gap of the empty word alone", none.gap(0), NONE);
    }

    private static void cover() {
        String[] texts = {"", "a", "ab", "aa", "aba", "abab", "ababa", "abaababaaba", "abbab", "aabaa", "abaaba"};
        int[] want = {NONE, 1, 2, 1, 3, 2, 3, 3, 5, 5, 3};
        for (int i = 0; i < texts.length; i++) due("cover of " + texts[i], of(2, texts[i]).cover(), want[i]);
        due("cover of 60", of(2, "aab".repeat(20)).cover(), 3);
    }

    private static void part() {
        GrowingText x = of(2, "abbab");
        int[] want = {0, 1, 2, 3, NONE};
        for (int i = 0; i < want.length; i++) due("part(" + i + ")", x.part(i), want[i]);
        GrowingText over = of(2, "abababb");
        int[] wantOver = {0, 1, 2, 6, NONE};
        for (int i = 0; i < wantOver.length; i++) due("part(" + i + ")", over.part(i), wantOver[i]);
        due("part(-1)", x.part(-1), BAD);
        due("part(most)", x.part(MOST), NONE);
        due("of no letters", new GrowingText().part(0), NONE);
        due("the last of 60 like ones", of(1, "a".repeat(60)).part(1), 1);
        due("no more of 60 like ones", of(1, "a".repeat(60)).part(2), NONE);
        due("parts of 60 like ones", of(1, "a".repeat(60)).count(10), 2);
        due("parts", over.count(10), 4);
    }

    private static void common() {
        GrowingText x = of(2, "abbab");
        due("missing", x.common(0, 0), NULL);
        due("bad goes ahead of missing", x.common(0, 2), BAD);
        due("common(0, -1)", x.common(0, -1), BAD);
        due("common(4, 0)", x.common(4, 0), BAD);
        String[] rows = {"", "aabba", "zzab", "xyz", "bbbab", "aacbb", "abab", "babbabb", "acb"};
        int[][] want = {{0, 0}, {4, 1}, {2, 2}, {0, 0}, {4, 1}, {2, 3}, {3, 1}, {5, 1}, {1, 0}};
        for (int i = 0; i < rows.length; i++) {
            write(x, 0, rows[i]);
            due("common of " + rows[i], x.common(0, 0), want[i][0]);
            due("place of common of " + rows[i], x.common(0, 1), want[i][1]);
        }
        due("sheet stays", read(x, 0), "acb");
        GrowingText none = new GrowingText();
        none.sheet(0, 5);
        due("nothing in common with no letters", none.common(0, 0), 0);
    }

    private static void border() {
        GrowingText x = of(2, "abaababaaba");
        int[] want = {6, 3, 1, NONE};
        for (int i = 0; i < want.length; i++) due("border(" + i + ")", x.border(i), want[i]);
        due("border(-1)", x.border(-1), BAD);
        due("border(most)", x.border(MOST), NONE);
        due("none", of(2, "ab").border(0), NONE);
        due("one letter", of(2, "a").border(0), NONE);
        due("no letters", new GrowingText().border(0), NONE);
        due("60 like ones", of(1, "a".repeat(60)).border(58), 1);
    }

    private static void next() {
        GrowingText x = of(3, "abacabab");
        due("next(0)", x.next(0), 0);
        due("next(1): behind b always a", x.next(1), 0);
        due("next(2)", x.next(2), 0);
        due("next(3): bab is new", x.next(3), NONE);
        due("next(8)", x.next(8), NONE);
        due("next(9)", x.next(9), BAD);
        due("next(-1)", x.next(-1), BAD);
        due("next(most)", x.next(MOST), BAD);
        due("of like ones the least", of(3, "acaba").next(1), 1);
        due("the most often", of(3, "acacaba").next(1), 2);
        due("no letters", new GrowingText().next(0), NONE);
        due("one letter", of(3, "c").next(0), 2);
    }

    private static void worth() {
        GrowingText x = of(2, "abbab");
        // 2 words of one letter, 3 of two, 3 of three, 2 of four, 1 of five
        due("worth(1)", x.worth(1), 11);
        due("worth(2)", x.worth(2), 4 + 12 + 24 + 32 + 32);
        due("worth(9)", x.worth(9), 18 + 243 + 2187 + 13122 + 59049);
        due("worth(0)", x.worth(0), BAD);
        due("worth(10)", x.worth(10), BAD);
        due("worth(-1)", x.worth(-1), BAD);
        due("of no letters", new GrowingText().worth(9), 0);
        due("30 like ones", of(1, "a".repeat(30)).worth(2), 2147483646);
        due("31 like ones", of(1, "a".repeat(31)).worth(2), MUCH);
        due("9 like ones", of(1, "a".repeat(9)).worth(9), 435848049);
        due("10 like ones", of(1, "a".repeat(10)).worth(9), MUCH);
        due("together too much", of(2, "a".repeat(28) + "bbb").worth(2), MUCH);
        due("60 of one", of(1, "a".repeat(60)).worth(1), 60);
    }

    private static void keep() {
        GrowingText x = of(3, "abcab");
        due("keep(0)", x.keep(0), 5);
        x.grow(2);
        due("keep(1)", x.keep(1), 6);
        due("keep(2)", x.keep(2), BAD);
        due("keep(-1)", x.keep(-1), BAD);
        due("text stays", text(x), "abcabc");
        x.begin(2);
        due("keep(0) anew", x.keep(0), 0);
        due("image 1 stays", x.goBack(1), 6);
        due("image 0 is new", x.goBack(0), 0);
        due("K", x.count(0), 2);
        GrowingText y = of(3, "cbacb");
        y.keep(1);
        y.begin(5);
        y.drift(60, 9);
        due("goBack(1)", y.goBack(1), 5);
        due("text", text(y), "cbacb");
    }

    private static void goBack() {
        GrowingText x = of(3, "abbab");
        due("not kept", x.goBack(0), NOT);
        due("goBack(2)", x.goBack(2), BAD);
        due("goBack(-1)", x.goBack(-1), BAD);
        due("text stays", text(x), "abbab");
        x.keep(0);
        x.begin(5);
        x.drift(30, 11);
        write(x, 0, "abc");
        due("goBack(0)", x.goBack(0), 5);
        due("K", x.count(0), 3);
        due("text", text(x), "abbab");
        due("states", x.count(2), 7);
        due("the clone is of", x.state(4, 6), 2);
        due("sheets are not in images", read(x, 0), "abc");
        due("the other one is not kept", x.goBack(1), NOT);
        x.cut(5);
        due("goBack(0) again", x.goBack(0), 5);
        due("grow on", x.grow(2), 8);
        due("goBack(0) once more", x.goBack(0), 5);
        due("text", text(x), "abbab");
    }
}
