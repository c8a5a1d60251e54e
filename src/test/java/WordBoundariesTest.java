/** Promises 17 to 33, of words: each sentence that names a boundary has a test of its own. */
public final class WordBoundariesTest extends Boundaries {
    private static final String SHEETS = "row0:ab row1:b sheet(2,0) row3:z ";

    public static void main(String[] args) {
        walk();
        walkNone();
        times();
        timesNone();
        kth();
        kthNone();
        rank();
        rankNone();
        absent();
        missing();
        missingMuch();
        often();
        oftenNone();
        oftenLike();
        twice();
        twiceNone();
        unlike();
        single();
        gap();
        gapNone();
        cover();
        part();
        partAlone();
        common();
        commonNone();
        border();
        next();
        nextNone();
        worth();
        worthMuch();
        finish("WordBoundariesTest");
    }

    private static void walk() {
        sentence("The STATE of what a SHEET holds. BAD; NULL.");
        on(SHEETS + "text:abb").range("walk(#)", 0, 3, BAD).each("walk(#)", 2, 4, 0, NONE, BAD);
        on("text:abb").range("walk(#)", 0, 3, BAD).each("walk(#)", NULL, NULL, NULL, NULL, BAD);
        on(SHEETS + "drop(0)").due("walk(0)", NULL);
        on("sheet(0,0)").due("walk(0)", 0);
        on(A60 + " sheet(0,1) sheet(1,59) sheet(2,60)").each("walk(#)", 1, 59, 60, NULL, BAD);
    }

    private static void walkNone() {
        sentence("NONE: it is no WORD.");
        on("sheet(0,1) sheet(1,64)").due("walk(0)", NONE).due("walk(1)", NONE);
        on(A60 + " sheet(0,61) sheet(1,64)").due("walk(0)", NONE).due("walk(1)", NONE);
        on(A60 + " sheet(0,60) set(0,59,98)").due("walk(0)", NONE);
        on(A60 + " sheet(0,60) set(0,0,98)").due("walk(0)", NONE);
        on("text:ab row0:ba row1:abb row2:abc").each("walk(#)", NONE, NONE, NONE, NULL);
        on("text:ab row0:ab cut(1)").due("walk(0)", NONE);
    }

    private static void times() {
        sentence("TIMES of what a SHEET holds: how many (what = 0), the first (1), the last (2). BAD; NULL.");
        on(SHEETS + "text:abb").range("times(#,0)", 0, 3, BAD).range("times(0,#)", 0, 2, BAD).range("times(2,#)", 0, 2, BAD);
        on("text:abb").range("times(#,0)", 0, 3, BAD).range("times(0,#)", 0, 2, BAD).range("times(3,#)", 0, 2, BAD);
        on("text:abb").each("times(0,#)", NULL, NULL, NULL, BAD).due("times(4,3)", BAD).due("times(4,0)", BAD);
        on(SHEETS + "text:abb").each("times(1,#)", 2, 2, 3, BAD).each("times(0,#)", 1, 2, 2, BAD);
        on("sheet(0,0)").each("times(0,#)", 1, 0, 0, BAD);
        on(A60 + " sheet(0,0) sheet(1,1) sheet(2,60)").each("times(0,#)", 61, 0, 60).each("times(1,#)", 60, 1, 60);
        on(A60 + " sheet(2,60)").each("times(2,#)", 1, 60, 60, BAD);
    }

    private static void timesNone() {
        sentence("how many (what = 0; none: 0), the last (2; NONE: no WORD).");
        on("sheet(0,1)").each("times(0,#)", 0, NONE, NONE, BAD);
        on(SHEETS + "text:abb").each("times(3,#)", 0, NONE, NONE, BAD);
        on(A60 + " sheet(0,61) sheet(1,64)").each("times(0,#)", 0, NONE, NONE, BAD).each("times(1,#)", 0, NONE, NONE, BAD);
    }

    private static void kth() {
        sentence("The k-th WORD comes to a SHEET (anew): how many letters. BAD: k below 0");
        on("text:abb").due("kth(-1,0)", BAD).due("kth(" + LEAST + ",0)", BAD).range("kth(0,#)", 0, 3, BAD);
        on("").due("kth(-1,0)", BAD).due("kth(0,4)", BAD).due("kth(0,-1)", BAD).due("kth(-1,4)", BAD);
        on("text:abb").range("kth(4,#)", 0, 3, BAD).due("kth(5,4)", BAD).due("kth(-1,4)", BAD);
        on("text:abb kth(0,0)").row(0, "a").row(1, null);
        on("text:abb kth(4,3)").row(3, "bb").row(0, null);
        on("text:abb row0:xyz kth(0,0)").alike("text:abb sheet(0,1)");
        on("text:abb sheet(0,64) kth(2,0)").alike("text:abb row0:abb");
        on("text:abb sheet(0,0) kth(2,0)").alike("text:abb row0:abb");
        on("begin(1) " + A60 + " kth(59,0)").row(0, "a".repeat(60)).due("size(0)", 60);
        on(AB60 + " kth(59,0)").row(0, "a" + "b".repeat(59)).due("kth(118,0)", 59).due("kth(60,0)", 1);
        // What was counted for another text is not left over.
        on(A60 + " kth(59,0) begin(2) " + AB60).due("kth(59,0)", 60).due("kth(60,0)", 1).due("kth(118,0)", 59);
        on(AB60 + " kth(59,0) absent(0) begin(1) " + A60).due("kth(59,0)", 60).due("kth(58,0)", 59).due("absent(0)", 61);
        on(AB60 + " kth(0,0) cut(60) text:b").due("kth(0,0)", 1).due("kth(1,0)", NONE);
        on("begin(5) drift(60,1) kth(0,0) rank(0) drift(1,1) kth(1,0) begin(2) drift(60,3) kth(9,0)").due("rank(0)", 9);
    }

    private static void kthNone() {
        sentence("NONE: not so many. (WORDS that are not empty)");
        on("").due("kth(0,0)", NONE).due("kth(" + MOST + ",0)", NONE).row(0, null);
        on("text:b").due("kth(0,0)", 1).due("kth(1,0)", NONE);
        on("text:abb").each("kth(#,0)", 1, 2, 3, 1, 2, NONE).due("kth(" + MOST + ",0)", NONE);
        on("begin(1) " + A60).due("kth(59,0)", 60).due("kth(60,0)", NONE).due("kth(" + MOST + ",0)", NONE);
        on(AB60).due("kth(118,0)", 59).due("kth(119,0)", NONE);
        on("row0:xyz text:abb").due("kth(5,0)", NONE).due("kth(5,1)", NONE);
        on("text:abb cut(1)").due("kth(2,0)", 1).due("kth(3,0)", NONE);
    }

    private static void rank() {
        sentence("RANK of what a SHEET holds. BAD; NULL.");
        on(SHEETS + "text:abb").range("rank(#)", 0, 3, BAD).each("rank(#)", 1, 3, NONE, NONE, BAD);
        on("text:abb").range("rank(#)", 0, 3, BAD).each("rank(#)", NULL, NULL, NULL, NULL, BAD);
        on("").each("rank(#)", NULL, NULL, NULL, NULL, BAD).due("rank(-1)", BAD);
        on("begin(1) " + A60 + " sheet(0,1) sheet(1,60)").each("rank(#)", 0, 59, NULL, NULL, BAD);
        on(AB60 + " row0:a row1:" + "b".repeat(59) + " kth(59,2)").each("rank(#)", 0, 118, 59);
    }

    private static void rankNone() {
        sentence("NONE: no WORD, the empty one.");
        on("sheet(0,0) sheet(1,1) row2:z").each("rank(#)", NONE, NONE, NONE, NULL);
        on(A60 + " sheet(0,0) sheet(1,61) sheet(2,64)").each("rank(#)", NONE, NONE, NONE, NULL);
        on("text:abb row0:ba row1:abba row2:ac").each("rank(#)", NONE, NONE, NONE, NULL);
    }

    private static void absent() {
        sentence("ABSENT comes to a SHEET (anew): how many letters. BAD.");
        on("").range("absent(#)", 0, 3, BAD).due("absent(0)", 1);
        on("text:abb").range("absent(#)", 0, 3, BAD).due("absent(3)", 2);
        on("absent(0)").row(0, "a").row(1, null);
        on("begin(5) absent(3)").row(3, "a").row(0, null);
        on("text:abb row1:xyz absent(1)").alike("text:abb row1:aa");
        on("text:abb sheet(1,0) absent(1)").alike("text:abb row1:aa");
        on("text:abb sheet(1,64) absent(1)").alike("text:abb row1:aa");
        on("begin(1) " + A60 + " absent(0)").row(0, "a".repeat(61)).due("absent(0)", 61).due("walk(0)", NONE);
        on(A60 + " absent(0)").row(0, "b");
        sentence("ABSENT: the shortest row of LETTERS that is no WORD, of like ones the first.");
        on("begin(5) text:abcd absent(0)").row(0, "e");
        on("begin(5) text:edcba absent(0)").row(0, "aa");
        on("begin(5) text:ebcdaa absent(0)").row(0, "ab");
        on("text:aabba absent(0)").row(0, "aaa");
        on("text:aababbbaa absent(0)").row(0, "aaa");
        on("text:aaababbbaa absent(0)").row(0, "aaaa");
    }

    private static void missing() {
        sentence("MISSING of n letters (0 .. 60). BAD");
        on("").range("missing(#)", 0, 60, BAD).each("missing(#)", 0, 2, 4, 8);
        on("begin(1)").range("missing(#)", 0, 60, BAD).each("missing(#)", 0, 1, 1).due("missing(60)", 1);
        on("begin(1) " + A60).range("missing(#)", 0, 60, BAD).due("missing(60)", 0).due("missing(59)", 0);
        on("begin(1) text:" + "a".repeat(59)).due("missing(60)", 1).due("missing(59)", 0);
        on("text:abbab").each("missing(#)", 0, 0, 1, 5, 14, 31, 64).due("missing(30)", 1073741824);
        on("begin(5) drift(60,1)").range("missing(#)", 0, 60, BAD).due("missing(0)", 0).due("missing(1)", 0);
    }

    private static void missingMuch() {
        sentence("MUCH: there are more rows of n LETTERS than 2147483647.");
        int[] lastTaken = {0, 60, 30, 19, 15, 13};
        int[] rows = {0, 1, 1073741824, 1162261467, 1073741824, 1220703125};
        for (int k = 1; k <= 5; k++) {
            Way none = on("begin(" + k + ")").due("missing(" + lastTaken[k] + ")", rows[k]);
            // Each of these goes around 32 or 64 bits elsewhere, some to 0.
            for (int n = lastTaken[k] + 1; n <= 60; n++) none.due("missing(" + n + ")", MUCH);
            none.due("missing(61)", BAD).due("missing(62)", BAD).due("missing(64)", BAD).due("missing(-1)", BAD);
        }
        // 31 words of 30 letters, 30 of 31: the rows are counted, not what is left of them.
        on("drift(60,77)").due("missing(30)", 1073741824 - 31).due("missing(31)", MUCH);
        on("begin(3) drift(60,77)").due("missing(19)", 1162261467 - 42).due("missing(20)", MUCH);
        on("begin(4) drift(60,77)").due("missing(15)", 1073741824 - 46).due("missing(16)", MUCH);
        on("begin(5) drift(60,77)").due("missing(13)", 1220703125 - 48).due("missing(14)", MUCH);
    }

    private static void often() {
        sentence("OFTEN n (1 on) comes to a SHEET (anew): how many letters. BAD.");
        on("text:abb").due("often(0,0)", BAD).due("often(-1,0)", BAD).due("often(" + LEAST + ",0)", BAD).due("often(1,0)", 3);
        on("text:abb").range("often(1,#)", 0, 3, BAD).range("often(4,#)", 0, 3, BAD).due("often(0,4)", BAD);
        on("text:abb row0:xyz often(1,0)").alike("text:abb row0:abb");
        on("text:abb sheet(0,64) often(2,0)").alike("text:abb row0:b");
        on("text:abb row3:xyz often(4,3)").alike("text:abb sheet(3,0)");
        on("often(1,2)").alike("sheet(2,0)").due("often(1,2)", 0);
        on(A60).due("often(1,0)", 60).due("often(2,0)", 59).due("often(60,0)", 1).due("often(61,0)", 0);
        on(A60 + " often(1,0)").row(0, "a".repeat(60));
        on(A60 + " often(60,0)").row(0, "a");
        on(AB60 + " often(2,0)").row(0, "b".repeat(58));
    }

    private static void oftenNone() {
        sentence("NONE: not even the empty one.");
        on("").due("often(1,0)", 0).due("often(2,0)", NONE).due("often(" + MOST + ",3)", NONE).row(0, null);
        on("text:b").each("often(#,0)", BAD, 1, 0, NONE);
        on("row0:xyz text:abb").each("often(#,0)", BAD, 3, 1, 0, 0, NONE).due("often(5,1)", NONE);
        on(A60).due("often(61,0)", 0).due("often(62,0)", NONE).due("often(" + MOST + ",0)", NONE);
    }

    private static void oftenLike() {
        sentence("OFTEN n: the longest WORD that has n ENDS at least, of like ones the first.");
        on("begin(4) text:cdcdabab often(2,0)").row(0, "ab");
        on("begin(4) text:ababcdcd often(2,0)").row(0, "ab");
        on("begin(4) text:dbdacdbda often(2,0)").row(0, "dbda");
        on("text:bbaa often(2,0)").row(0, "a");
        on("text:bbaa often(3,0)").row(0, "");
    }

    private static void twice() {
        sentence("TWICE of n letters (1 .. 60). BAD.");
        on("").range("twice(#)", 1, 60, BAD);
        on("text:abbab").range("twice(#)", 1, 60, BAD).each("twice(#)", BAD, 3, 5, NONE, NONE);
        on(A60).range("twice(#)", 1, 60, BAD).due("twice(1)", 2).due("twice(2)", 3).due("twice(59)", 60);
        on("text:" + "ab".repeat(30)).due("twice(1)", 3).due("twice(58)", 60).due("twice(59)", NONE);
    }

    private static void twiceNone() {
        sentence("TWICE of n letters: behind how many letters of THE TEXT a WORD of n letters first has two ENDS; NONE.");
        on("").due("twice(1)", NONE).due("twice(60)", NONE);
        on("text:b").due("twice(1)", NONE).due("twice(2)", NONE);
        on("text:ba").due("twice(1)", NONE);
        on("text:bb").due("twice(1)", 2).due("twice(2)", NONE);
        on(A60).due("twice(60)", NONE).due("twice(61)", BAD);
        on("begin(5) text:abcde").due("twice(1)", NONE).due("twice(5)", NONE);
        on("text:abb cut(1)").due("twice(1)", NONE);
    }

    private static void unlike() {
        sentence("UNLIKE (n 0 to how many letters THE TEXT has). BAD.");
        on("").range("unlike(#)", 0, 0, BAD).due("unlike(0)", 0).due("unlike(1)", BAD);
        on("text:b").range("unlike(#)", 0, 1, BAD).each("unlike(#)", 0, 1, BAD);
        on("text:abbab").range("unlike(#)", 0, 5, BAD).each("unlike(#)", 0, 1, 3, 5, 8, 11, BAD);
        on("begin(1) " + A60).range("unlike(#)", 0, 60, BAD).due("unlike(60)", 60).due("unlike(59)", 59);
        on(AB60).range("unlike(#)", 0, 60, BAD).due("unlike(60)", 119).due("unlike(59)", 117).due("unlike(61)", BAD);
        on("text:abbab cut(2)").range("unlike(#)", 0, 3, BAD);
    }

    private static void single() {
        sentence("SINGLE comes to a SHEET (anew): how many letters. BAD.");
        on("").range("single(#)", 0, 3, BAD).due("single(0)", 0);
        on("text:abb").range("single(#)", 0, 3, BAD).due("single(0)", 1);
        on("single(0)").alike("sheet(0,0)");
        on("row0:xyz single(0)").alike("sheet(0,0)");
        on("text:b single(3)").alike("text:b row3:b");
        on("text:abb sheet(2,64) single(2)").alike("text:abb row2:a");
        on(A60 + " single(1)").row(1, "a".repeat(60)).due("single(1)", 60);
        on(AB60 + " single(1)").row(1, "a");
        sentence("SINGLE: the shortest WORD that has one END alone, of like ones the first.");
        on("begin(3) text:cba single(0)").row(0, "a");
        on("begin(3) text:ccbba single(0)").row(0, "a");
        on("text:bbaab single(0)").row(0, "aa");
        on("text:" + "ab".repeat(30) + " single(0)").row(0, "ba".repeat(29));
    }

    private static void gap() {
        sentence("GAP of what a SHEET holds. BAD; NULL.");
        on(SHEETS + "text:abb").range("gap(#)", 0, 3, BAD).each("gap(#)", NONE, 1, 1, NONE, BAD);
        on("text:abb").range("gap(#)", 0, 3, BAD).each("gap(#)", NULL, NULL, NULL, NULL, BAD);
        on("").each("gap(#)", NULL, NULL, NULL, NULL, BAD).due("gap(-1)", BAD);
        sentence("GAP of a WORD: the greatest difference of two ENDS next to one another");
        on("text:a" + "b".repeat(58) + "a row0:a row1:b sheet(2,0)").each("gap(#)", 59, 1, 1, NULL);
        on("text:abbabbbba row0:a row1:b row2:ab row3:bba").each("gap(#)", 5, 2, 3, 5);
        on("text:" + "ab".repeat(30) + " row0:" + "ab".repeat(29)).due("gap(0)", 2);
    }

    private static void gapNone() {
        sentence("NONE (no WORD, too). NONE: it has one alone.");
        on("sheet(0,0) sheet(1,1)").each("gap(#)", NONE, NONE, NULL, NULL);
        on("text:b sheet(0,0) row1:b row2:a").each("gap(#)", 1, NONE, NONE, NULL);
        on(A60 + " sheet(0,59) sheet(1,60) sheet(2,61) sheet(3,64)").each("gap(#)", 1, NONE, NONE, NONE, BAD);
    }

    private static void cover() {
        sentence("COVER; NONE. (NONE: no letters)");
        on("").due("cover()", NONE);
        on("text:abb cut(3)").due("cover()", NONE);
        on("text:abb begin(5)").due("cover()", NONE);
        sentence("COVER: the least number of letters (1 on) of a WORD that begins THE TEXT, ends it, and of which no two "
            + "ENDS next to one another are farther apart than it has letters");
        on("text:b").due("cover()", 1);
        on("text:bb").due("cover()", 1);
        on("text:ab").due("cover()", 2);
        on("text:abab").due("cover()", 2);
        on("text:abaaba").due("cover()", 3);
        on("text:abaabaa").due("cover()", 4);
        on("text:aabaa").due("cover()", 5);
        on("text:abbab").due("cover()", 5);
        on(A60).due("cover()", 1);
        on(AB60).due("cover()", 60);
        on("text:" + "ab".repeat(30)).due("cover()", 2);
        on("text:" + "aab".repeat(19) + "aaa").due("cover()", 60);
        on("text:" + "a".repeat(29) + "b" + "a".repeat(29) + "b").due("cover()", 30);
    }

    private static void part() {
        sentence("PARTS: where the k-th begins; NONE: not so many. BAD: k below 0.");
        on("").due("part(0)", NONE).due("part(" + MOST + ")", NONE).due("part(-1)", BAD).due("part(" + LEAST + ")", BAD);
        on("text:b").each("part(#)", 0, NONE, NONE).due("part(-1)", BAD);
        on("text:abbab").each("part(#)", 0, 1, 2, 3, NONE).due("part(" + MOST + ")", NONE).due("part(-1)", BAD);
        on(A60).each("part(#)", 0, 1, NONE).due("part(60)", NONE).due("part(" + MOST + ")", NONE).due("part(-1)", BAD);
    }

    private static void partAlone() {
        sentence("each part as long as can be a WORD that has an END less than the part's own END there (the two may lie "
            + "over one another), or else (as its first letter was not there ahead of it) one letter");
        on("begin(5) text:abcde").each("part(#)", 0, 1, 2, 3, 4, NONE).due("count(10)", 5);
        on("text:aab").each("part(#)", 0, 1, 2, NONE);
        on("text:abababb").each("part(#)", 0, 1, 2, 6, NONE).due("count(10)", 4);
        on("text:abaab").each("part(#)", 0, 1, 2, 3, NONE);
        on("text:" + "ab".repeat(30)).each("part(#)", 0, 1, 2, NONE).due("count(10)", 3);
        on("text:" + "a".repeat(59) + "b").each("part(#)", 0, 1, 59, NONE);
    }

    private static void common() {
        sentence("COMMON: how many letters (what = 0), where (1). BAD; NULL.");
        on(SHEETS + "text:abb").range("common(#,0)", 0, 3, BAD).range("common(#,1)", 0, 3, BAD).range("common(0,#)", 0, 1, BAD);
        on("text:abb").range("common(#,0)", 0, 3, BAD).range("common(0,#)", 0, 1, BAD).due("common(4,2)", BAD);
        on("").each("common(0,#)", NULL, NULL, BAD).each("common(3,#)", NULL, NULL, BAD).due("common(4,0)", BAD);
        on(A60 + " sheet(0,64) sheet(1,60) sheet(2,1)").each("common(0,#)", 60, 0, BAD).each("common(1,#)", 60, 0, BAD);
        on(A60 + " row0:zzzz" + "a".repeat(60)).each("common(0,#)", 60, 4);
        on("text:ab row0:" + "z".repeat(63) + "b").each("common(0,#)", 1, 63);
        on("text:ab row0:" + "z".repeat(62) + "ab").each("common(0,#)", 2, 62);
    }

    private static void commonNone() {
        sentence("COMMON of a SHEET: the longest row of its characters, side by side, that is a WORD; the first place where "
            + "such a one begins. where (1; 0, if none).");
        on("sheet(0,0) sheet(1,1) sheet(2,64)").each("common(0,#)", 0, 0).each("common(1,#)", 0, 0).each("common(2,#)", 0, 0);
        on(A60 + " sheet(0,0) row1:zb row2:" + "b".repeat(64)).each("common(0,#)", 0, 0).each("common(1,#)", 0, 0);
        on(A60 + " row2:" + "b".repeat(64)).each("common(2,#)", 0, 0);
        on("text:ab row0:bbab row1:abzab row2:zbzab row3:azb").each("common(0,#)", 2, 2).each("common(1,#)", 2, 0);
        on("text:ab row2:zbzab row3:azb").each("common(2,#)", 2, 3).each("common(3,#)", 1, 0);
    }

    private static void border() {
        sentence("BORDERS: the k-th; NONE: not so many. BAD: k below 0. (fewer than all, more than none)");
        on("").due("border(0)", NONE).due("border(" + MOST + ")", NONE).due("border(-1)", BAD).due("border(" + LEAST + ")", BAD);
        on("text:b").due("border(0)", NONE).due("border(-1)", BAD);
        on("text:bb").each("border(#)", 1, NONE, NONE);
        on("text:ab").due("border(0)", NONE);
        on("text:aba").each("border(#)", 1, NONE);
        on("text:abaababaaba").each("border(#)", 6, 3, 1, NONE).due("border(" + MOST + ")", NONE).due("border(-1)", BAD);
        on(A60).due("border(0)", 59).due("border(58)", 1).due("border(59)", NONE).due("border(60)", NONE);
        on(AB60).due("border(0)", NONE);
    }

    private static void next() {
        sentence("NEXT of n (0 to how many letters THE TEXT has). BAD.");
        on("").range("next(#)", 0, 0, BAD).due("next(0)", NONE).due("next(1)", BAD);
        on("text:b").range("next(#)", 0, 1, BAD).each("next(#)", 1, NONE, BAD);
        on("text:abbab").range("next(#)", 0, 5, BAD).each("next(#)", 1, 0, 1, NONE, NONE, NONE, BAD);
        on(A60).range("next(#)", 0, 60, BAD).due("next(0)", 0).due("next(59)", 0).due("next(60)", NONE).due("next(61)", BAD);
        on("text:abbab cut(3)").range("next(#)", 0, 2, BAD);
    }

    private static void nextNone() {
        sentence("NEXT of n: the LETTER that stands most often behind the last n letters of THE TEXT, where these stand, of "
            + "like ones the least; NONE: nowhere.");
        on("text:ab").each("next(#)", 0, NONE, NONE, BAD);
        on("text:ba").each("next(#)", 0, NONE, NONE, BAD);
        on("text:bba").each("next(#)", 1, NONE, NONE, NONE, BAD);
        on("begin(5) text:eaeceb").each("next(#)", 4, NONE);
        on("begin(5) text:eaecebe").each("next(#)", 4, 0, NONE);
        on("begin(5) text:eaecece").each("next(#)", 4, 2, 2, 2, NONE);
    }

    private static void worth() {
        sentence("WORTH of v (1 .. 9). BAD");
        on("").range("worth(#)", 1, 9, BAD).each("worth(#)", BAD, 0, 0, 0, 0, 0, 0, 0, 0, 0, BAD);
        on("text:b").range("worth(#)", 1, 9, BAD).each("worth(#)", BAD, 1, 2, 3, 4, 5, 6, 7, 8, 9, BAD);
        on("text:ab").each("worth(#)", BAD, 3, 8, 15, 24, 35, 48, 63, 80, 99, BAD);
        on(A60).range("worth(#)", 1, 9, BAD).due("worth(1)", 60).due("worth(0)", BAD).due("worth(10)", BAD);
        on(AB60).due("worth(1)", 119).due("worth(2)", MUCH);
    }

    private static void worthMuch() {
        sentence("WORTH: MUCH. (more than 31 bits hold)");
        // Of so many like letters: v and v times v and so on; of one more it is above 2147483647.
        int[] lastTaken = {0, 60, 30, 19, 15, 13, 11, 10, 10, 9};
        int[] sums = {0, 60, 2147483646, 1743392199, 1431655764, 1525878905, 435356466, 329554456, 1227133512, 435848049};
        for (int v = 1; v <= 9; v++) {
            on("text:" + "a".repeat(lastTaken[v])).due("worth(" + v + ")", sums[v]);
            // Powers of each of these go around 32 or 64 bits elsewhere, some to 0.
            for (int n = lastTaken[v] + 1; n <= 60; n++) on("text:" + "a".repeat(n)).due("worth(" + v + ")", MUCH);
        }
        // 7 to the 11th alone, 1977326743, would not be too much.
        on("text:" + "a".repeat(11)).due("worth(7)", MUCH);
        // With words of two kinds 30 letters are too much for 2, and 19 for 3; 29 and 18 never are.
        on("text:" + "a".repeat(29) + "b").due("worth(2)", MUCH).due("worth(3)", MUCH);
        on("text:" + "a".repeat(18) + "b").due("worth(3)", MUCH);
        on("text:" + "a".repeat(28) + "b").due("worth(2)", 1610612732);
        on("text:" + "a".repeat(17) + "b").due("worth(3)", 774840975);
    }
}
