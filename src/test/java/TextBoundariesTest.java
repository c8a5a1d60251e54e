/** Promises 1 to 8, the text: each sentence that names a boundary has a test of its own. */
public final class TextBoundariesTest extends Boundaries {
    public static void main(String[] args) {
        newObject();
        begin();
        beginAnew();
        grow();
        growFull();
        growBy();
        growByNoLetter();
        growByFull();
        growByStates();
        cut();
        drift();
        driftNumbers();
        driftFull();
        letter();
        count();
        countOfNone();
        countOfOne();
        countOfMost();
        finish("TextBoundariesTest");
    }

    private static void newObject() {
        sentence("Two LETTERS, an empty TEXT, no SHEETS.");
        on("").due("count(0)", 2).due("grow(1)", 2).due("grow(2)", BAD);
        on("").due("count(1)", 0).due("cut(0)", 0).due("cut(1)", BAD).due("letter(0)", PLACE);
        on("").due("count(9)", 0).each("drop(#)", NULL, NULL, NULL, NULL, BAD);
        on("").alike("begin(2)");
    }

    private static void begin() {
        sentence("THE ALPHABET has k LETTERS, THE TEXT is empty: how many letters it had. BAD. (1 .. 5)");
        on("").range("begin(#)", 1, 5, BAD);
        on("text:ab").range("begin(#)", 1, 5, BAD);
        on(A60).range("begin(#)", 1, 5, BAD);
        on("").due("begin(1)", 0).due("begin(5)", 0);
        on("text:b").due("begin(1)", 1).due("begin(5)", 1).due("begin(2)", 1);
        on(A60).due("begin(1)", 60).due("begin(5)", 60);
        on("text:abb cut(1)").due("begin(2)", 2);
        on("text:abb begin(3)").due("begin(2)", 0);
    }

    private static void beginAnew() {
        sentence("THE ALPHABET has k LETTERS, THE TEXT is empty: all else of it is as of no letters");
        for (int k = 1; k <= 5; k++) {
            on("begin(4) text:dabdabcabdad begin(" + k + ")").alike("begin(" + k + ")").due("count(0)", k);
            on(A60 + " begin(" + k + ")").alike("begin(" + k + ")").due("grow(" + (k - 1) + ")", 2).due("grow(" + k + ")", BAD);
        }
        on("text:ab keep(0) row3:xy begin(5)").row(3, "xy").due("goBack(0)", 2);
    }

    private static void grow() {
        sentence("A LETTER comes behind: how many STATES there are. BAD: no LETTER");
        on("begin(1)").range("grow(#)", 0, 0, BAD).due("grow(0)", 2);
        on("begin(5)").range("grow(#)", 0, 4, BAD).due("grow(4)", 2);
        on("begin(5) text:abcde").range("grow(#)", 0, 4, BAD);
        on("text:ab").due("grow(0)", 4).due("grow(1)", 5);
        on("text:ab grow(1)").text("abb");
        on(A59).range("grow(#)", 0, 1, BAD).due("grow(0)", 61).due("grow(1)", 61);
        on("text:a" + "b".repeat(58)).due("grow(0)", 118).due("grow(1)", 119);
    }

    private static void growFull() {
        sentence("FULL: 60.");
        on(A59 + " grow(1)").due("grow(0)", FULL).due("grow(1)", FULL).text("a".repeat(59) + "b");
        on("begin(5) drift(60,1)").each("grow(#)", FULL, FULL, FULL, FULL, FULL, BAD).due("grow(-1)", BAD);
        on("begin(5) drift(60,1) cut(1)").due("count(1)", 59).due("grow(5)", BAD);
        on("begin(5) drift(60,1) cut(1) grow(4)").due("grow(4)", FULL);
        on("begin(5) drift(60,1) begin(5)").due("grow(4)", 2);
    }

    private static void growBy() {
        sentence("All characters of a SHEET come behind, one by one: how many letters THE TEXT has then. BAD; NULL");
        on("row0:a row3:ba").range("growBy(#)", 0, 3, BAD).due("growBy(0)", 1).due("growBy(3)", 2);
        on("row0:a row3:ba").due("growBy(1)", NULL).due("growBy(2)", NULL);
        on("").each("growBy(#)", NULL, NULL, NULL, NULL, BAD);
        on("row1:ab drop(1)").due("growBy(1)", NULL);
        on("sheet(0,0)").due("growBy(0)", 0);
        on("text:ab sheet(0,0) growBy(0)").alike("text:ab sheet(0,0)");
        on("text:ab row0:ba growBy(0)").row(0, "ba").text("abba").due("growBy(0)", 6);
    }

    private static void growByNoLetter() {
        sentence("NOT: one is no LETTER");
        for (int k = 1; k <= 5; k++) {
            String begin = "begin(" + k + ") sheet(0,3) set(0,";
            for (int i = 0; i < 3; i++) {
                on(begin + i + "," + (96 + k) + ")").due("growBy(0)", 3);
                on(begin + i + "," + (97 + k) + ")").due("growBy(0)", NOT);
                on(begin + i + ",96)").due("growBy(0)", NOT);
            }
            on(begin + "0,0)").due("growBy(0)", NOT);
            on(begin + "2,65535)").due("growBy(0)", NOT);
            on(begin + "2,353)").due("growBy(0)", NOT);
        }
        on("text:ab row0:abc").due("growBy(0)", NOT).text("ab");
    }

    private static void growByFull() {
        sentence("FULL: there is not room for all.");
        on("sheet(0,60) sheet(1,61) sheet(2,64)").due("growBy(0)", 60).due("growBy(1)", FULL).due("growBy(2)", FULL);
        on("text:b sheet(0,59) sheet(1,60)").due("growBy(0)", 60).due("growBy(1)", FULL).text("b");
        on(A59 + " sheet(0,0) sheet(1,1) sheet(2,2)").due("growBy(0)", 59).due("growBy(1)", 60).due("growBy(2)", FULL);
        on(A60 + " sheet(0,0) sheet(1,1) sheet(2,64)").due("growBy(0)", 60).due("growBy(1)", FULL).due("growBy(2)", FULL);
        on(A60 + " row0:b").due("growBy(0)", FULL).due("growBy(1)", NULL).due("growBy(4)", BAD);
        on(A60 + " row0:c").due("growBy(0)", NOT);
    }

    private static void growByStates() {
        sentence("All characters of a SHEET come behind, one by one: (the STATES too)");
        on("begin(3) row0:abcbcabcbc growBy(0)").alike("begin(3) row0:abcbcabcbc text:abcbcabcbc");
        on("text:ab row0:bab growBy(0)").alike("row0:bab text:abbab");
        on("sheet(0,60) set(0,0,98) growBy(0)").alike("sheet(0,60) set(0,0,98) text:b" + "a".repeat(59));
    }

    private static void cut() {
        sentence("TAKEN OFF: how many letters are left. BAD: n below 0, more than there are.");
        on("").range("cut(#)", 0, 0, BAD).due("cut(0)", 0).due("cut(1)", BAD);
        on("text:b").range("cut(#)", 0, 1, BAD).due("cut(0)", 1).due("cut(1)", 0);
        on("text:abbab").range("cut(#)", 0, 5, BAD).each("cut(#)", 5, 4, 3, 2, 1, 0, BAD);
        on(A60).range("cut(#)", 0, 60, BAD).due("cut(0)", 60).due("cut(1)", 59).due("cut(59)", 1).due("cut(60)", 0);
        on("text:abbab cut(2)").range("cut(#)", 0, 3, BAD).text("abb");
        on("text:abbab cut(5)").range("cut(#)", 0, 0, BAD).alike("");
        on("begin(5) text:edcba cut(5)").due("count(0)", 5).due("grow(4)", 2);
    }

    private static void drift() {
        sentence("n letters (1 .. 60) by a SEED (1 .. 999999). BAD");
        on("").range("drift(#,1)", 1, 60, BAD).range("drift(1,#)", 1, 999999, BAD);
        on("").due("drift(0,0)", BAD).due("drift(61,1000000)", BAD).due("drift(" + MOST + "," + LEAST + ")", BAD);
        on("").due("drift(1,1)", 1).due("drift(60,999999)", 60);
        on(A59).due("drift(1,999999)", 60).due("drift(0,1)", BAD).due("drift(61,1)", BAD);
    }

    private static void driftNumbers() {
        sentence("X at first: ahead of each X becomes what is left of (X times 16807) by 2147483647; the LETTER is X left "
            + "over by K.");
        // 16807, 282475249, 1622650073, 984943658, 1144108930, 470211272, 101027544, 1457850878, 1458777923, 2007237709
        on("drift(10,1)").text("bbbaaaaabb");
        on("begin(3) drift(10,1)").text("bbccbcaccb");
        on("begin(4) drift(10,1)").text("dbbccaacdb");
        on("begin(5) drift(10,1)").text("ceddacedde");
        on("begin(1) drift(60,1)").text("a".repeat(60));
        // 999999 times 16807 is 16806983193; seven times 2147483647 less, 1774597664 is left; then 1410049312.
        on("drift(2,999999)").text("aa");
        on("begin(3) drift(2,999999)").text("cb");
        on("begin(5) drift(2,999999)").text("ec");
        // Each call begins with its own SEED.
        on("begin(5) drift(4,1) drift(4,1)").text("ceddcedd");
        on("begin(5) drift(4,1)").alike("begin(5) text:cedd");
    }

    private static void driftFull() {
        sentence("FULL: there is not room for all. (drift)");
        on("text:b").due("drift(59,1)", 60).due("drift(60,1)", FULL);
        on(A59).due("drift(1,1)", 60).due("drift(2,1)", FULL).due("drift(60,1)", FULL);
        on(A60).due("drift(1,1)", FULL).due("drift(60,999999)", FULL).due("drift(1,0)", BAD).due("drift(61,1)", BAD);
        on("drift(60,1) cut(2)").due("drift(2,1)", 60).due("drift(3,1)", FULL);
    }

    private static void letter() {
        sentence("Letter i of THE TEXT. PLACE.");
        on("").refuses("letter(#)", -1, PLACE);
        on("begin(5) text:ec").range("letter(#)", 0, 1, PLACE).each("letter(#)", 4, 2, PLACE);
        on(A59 + " grow(1)").range("letter(#)", 0, 59, PLACE).due("letter(58)", 0).due("letter(59)", 1).due("letter(60)", PLACE);
        on("begin(5) text:ec cut(1)").range("letter(#)", 0, 0, PLACE).each("letter(#)", 4, PLACE);
        on("begin(5) text:ec begin(5)").refuses("letter(#)", -1, PLACE);
    }

    private static void count() {
        sentence("0 K, 1 letters of THE TEXT, .. 10 PARTS. BAD.");
        on("text:abbab").range("count(#)", 0, 10, BAD);
        on("").due("count(-1)", BAD).due("count(11)", BAD).due("count(" + LEAST + ")", BAD).due("count(" + MOST + ")", BAD);
        on("text:abbab row1:z sheet(2,0)").each("count(#)", 2, 5, 7, 1, 8, 11, 2, 3, 30, 2, 4, BAD);
    }

    private static void countOfNone() {
        sentence("AGAIN: .. NONE: no letters. PERIOD: .. NONE: no letters. (and what else there is of no letters)");
        on("").each("count(#)", 2, 0, 1, 0, 0, 0, NONE, NONE, 0, 0, 0, BAD);
        on("begin(5)").each("count(#)", 5, 0, 1, 0, 0, 0, NONE, NONE, 0, 0, 0, BAD);
        on("text:abb cut(3)").each("count(#)", 2, 0, 1, 0, 0, 0, NONE, NONE, 0, 0, 0, BAD);
    }

    private static void countOfOne() {
        sentence("AGAIN: of how many letters the longest WORD is that ends THE TEXT and has another END. PERIOD: the least "
            + "p (1 on) for which each letter is like the one p places ahead, if there is one");
        on("text:b").each("count(#)", 2, 1, 2, 0, 1, 1, 0, 1, 1, 0, 1, BAD);
        on("text:bb").due("count(6)", 1).due("count(7)", 1).due("count(10)", 2);
        on("text:ba").due("count(6)", 0).due("count(7)", 2).due("count(10)", 2);
        on("text:aab").due("count(6)", 0).due("count(7)", 3);
        on("text:aba").due("count(6)", 1).due("count(7)", 2);
    }

    private static void countOfMost() {
        sentence("count, of 60 letters");
        on("begin(1) " + A60).each("count(#)", 1, 60, 61, 0, 60, 60, 59, 1, 1830, 0, 2, BAD);
        on(A59 + " grow(1)").each("count(#)", 2, 60, 61, 0, 119, 119, 0, 60, 3600, 0, 3, BAD);
        on("text:a" + "b".repeat(59)).each("count(#)", 2, 60, 119, 58, 119, 119, 58, 60, 3600, 0, 3, BAD);
        on("begin(3) text:a" + "b".repeat(58) + "c").due("count(2)", 118).due("count(4)", 176);
    }
}
