/** The document's sentences under "Terms" that name a boundary, each with a test of its own. */
public final class TermsTest extends Boundaries {
    /** A clone, an image, a sheet of letters, an empty one, one of no letters, one that is missing. */
    private static final String RICH = "begin(3) text:abb keep(1) text:ab row0:ab sheet(1,0) row2:xyz";

    public static void main(String[] args) {
        answers();
        badAheadOfAll();
        notAheadOfFull();
        foundInTurn();
        refusedChangesNothing();
        manyRefusalsChangeNothing();
        alphabet();
        text();
        emptyWord();
        ends();
        order();
        states();
        stateZero();
        moves();
        wholeText();
        clones();
        oneCloneAtMost();
        takenOff();
        sheets();
        behindTheLast();
        characters();
        noLetters();
        nothingButSheets();
        lastCall();
        finish("TermsTest");
    }

    private static void answers() {
        sentence("BAD -1 (a number is not as told), NOT -2 (as told), FULL -3, NONE -4 (as told); NULL -11 (a SHEET that "
            + "is missing), PLACE -12 (a place of it that there is not), MUCH -13 (more than 31 bits hold)");
        on("").due("begin(0)", GrowingText.BAD).due("goBack(0)", GrowingText.NOT).due("cover()", GrowingText.NONE);
        on("").due("size(0)", GrowingText.NULL).due("letter(0)", GrowingText.PLACE);
        on("").due("missing(31)", GrowingText.MUCH);
        on(A60).due("grow(0)", GrowingText.FULL);
        on("").due("begin(0)", -1).due("goBack(0)", -2).due("cover()", -4).due("size(0)", -11).due("letter(0)", -12);
        on("").due("missing(31)", -13);
        on(A60).due("grow(0)", -3);
    }

    private static void badAheadOfAll() {
        sentence("of several the first in this order: BAD ahead of NOT");
        on("row0:z row3:z").due("goBack(2)", BAD).due("goBack(-1)", BAD).due("growBy(4)", BAD).due("growBy(-1)", BAD);
        sentence("of several the first in this order: BAD ahead of FULL");
        on(A60 + " sheet(3,1)").due("grow(2)", BAD).due("grow(-1)", BAD).due("growBy(4)", BAD).due("growBy(-1)", BAD);
        on(A60).due("drift(61,1)", BAD).due("drift(0,1)", BAD).due("drift(1,0)", BAD).due("drift(1,1000000)", BAD);
        sentence("of several the first in this order: BAD ahead of NONE");
        on("text:abb row0:z").due("move(3,2)", BAD).due("move(3,-1)", BAD).due("move(5,0)", BAD).due("move(-1,0)", BAD);
        on("text:abb").due("end(5,9)", BAD).due("end(-1,9)", BAD).due("end(5,-1)", BAD).due("state(0,7)", BAD);
        on("text:abb row0:z").due("times(0,3)", BAD).due("times(0,-1)", BAD).due("times(4,2)", BAD);
        on("text:abb").due("kth(5,4)", BAD).due("kth(5,-1)", BAD).due("often(5,4)", BAD).due("often(5,-1)", BAD);
        on("").due("kth(-1,0)", BAD).due("kth(0,4)", BAD).due("rank(4)", BAD).due("often(0,0)", BAD);
        on("").due("twice(0)", BAD).due("twice(61)", BAD).due("part(-1)", BAD).due("border(-1)", BAD);
        on("").due("next(-1)", BAD).due("next(1)", BAD).due("gap(4)", BAD).due("walk(4)", BAD);
        sentence("of several the first in this order: BAD ahead of NULL");
        on("").due("set(0,0,65536)", BAD).due("set(0,0,-1)", BAD).due("times(0,3)", BAD).due("times(0,-1)", BAD);
        on("").due("common(0,2)", BAD).due("common(0,-1)", BAD);
        sentence("of several the first in this order: BAD ahead of PLACE");
        on("sheet(0,2)").due("set(0,2,65536)", BAD).due("set(0,-1,-1)", BAD).due("set(4,2,97)", BAD).due("get(4,2)", BAD);
        sentence("of several the first in this order: BAD ahead of MUCH");
        on(A60).due("missing(61)", BAD).due("missing(-1)", BAD).due("worth(10)", BAD).due("worth(0)", BAD);
    }

    private static void notAheadOfFull() {
        sentence("of several the first in this order: NOT ahead of FULL");
        on(A60 + " row0:c").due("growBy(0)", NOT);
        on("text:ab sheet(0,64) set(0,63,99)").due("growBy(0)", NOT);
        on("text:ab sheet(0,64) set(0,0,96)").due("growBy(0)", NOT);
    }

    private static void foundInTurn() {
        sentence("what the machine finds, as it is found: NULL ahead of NOT, FULL and NONE");
        on(A60).due("growBy(0)", NULL);
        on("").due("walk(0)", NULL).due("times(0,1)", NULL).due("times(0,2)", NULL).due("rank(0)", NULL);
        on("").due("gap(0)", NULL).due("common(0,1)", NULL);
        sentence("what the machine finds, as it is found: NULL ahead of PLACE");
        on("").due("get(0,0)", NULL).due("get(0,-1)", NULL).due("get(3,64)", NULL).due("set(0,0,97)", NULL);
        on("").due("set(0,-1,97)", NULL).due("set(3,64,97)", NULL);
        sentence("what the machine finds, as it is found: MUCH as soon as there are more rows, however few are WORDS");
        on("").due("missing(31)", MUCH);
        on(A60).due("missing(31)", MUCH);
    }

    private static void refusedChangesNothing() {
        sentence("What is refused, or found, changes nothing. (BAD)");
        String[] bad = {
            "begin(0)", "grow(3)", "growBy(4)", "cut(6)", "drift(61,1)", "drift(5,1000000)", "count(11)", "state(7,0)",
            "state(0,7)", "move(7,0)", "move(0,3)", "end(7,0)", "end(0,-1)", "sheet(4,1)", "sheet(0,65)", "set(4,0,97)",
            "set(0,0,65536)", "get(4,0)", "size(4)", "drop(4)", "walk(4)", "times(4,0)", "times(0,3)", "kth(0,4)",
            "kth(-1,0)", "rank(4)", "absent(4)", "missing(61)", "often(1,4)", "often(0,0)", "twice(61)", "unlike(6)",
            "single(4)", "gap(4)", "part(-1)", "common(4,0)", "common(0,2)", "border(-1)", "next(6)", "worth(10)",
            "keep(2)", "goBack(2)"};
        for (String call : bad) on(RICH).due(call, BAD);
        sentence("What is refused, or found, changes nothing. (NOT)");
        on(RICH).due("growBy(2)", NOT).due("goBack(0)", NOT);
        sentence("What is refused, or found, changes nothing. (FULL)");
        on(RICH + " sheet(0,56)").due("growBy(0)", FULL).due("drift(56,7)", FULL);
        on("begin(3) keep(1) drift(60,7) sheet(0,1)").due("grow(0)", FULL).due("growBy(0)", FULL).due("drift(1,1)", FULL);
        sentence("What is refused, or found, changes nothing. (NONE)");
        String[] none = {
            "state(0,2)", "state(6,6)", "move(6,0)", "end(6,1)", "walk(2)", "times(2,1)", "times(2,2)", "kth(11,0)",
            "kth(11,3)", "rank(1)", "rank(2)", "often(7,0)", "often(7,3)", "twice(3)", "gap(2)", "part(4)", "border(1)",
            "next(5)"};
        for (String call : none) on(RICH).due(call, NONE);
        on("sheet(1,0)").due("cover()", NONE).due("count(6)", NONE).due("count(7)", NONE).due("gap(1)", NONE);
        sentence("What is refused, or found, changes nothing. (NULL)");
        String[] missing = {
            "growBy(3)", "set(3,0,97)", "get(3,0)", "size(3)", "drop(3)", "walk(3)", "times(3,0)", "rank(3)", "gap(3)",
            "common(3,0)"};
        for (String call : missing) on(RICH).due(call, NULL);
        sentence("What is refused, or found, changes nothing. (PLACE)");
        on(RICH).due("letter(5)", PLACE).due("letter(-1)", PLACE);
        on(RICH).due("set(0,2,98)", PLACE).due("set(0,-1,98)", PLACE).due("set(1,0,98)", PLACE);
        on(RICH).due("get(0,2)", PLACE).due("get(0,-1)", PLACE).due("get(1,0)", PLACE);
        sentence("What is refused, or found, changes nothing. (MUCH)");
        on(RICH).due("missing(20)", MUCH).due("missing(60)", MUCH);
        on(RICH + " drift(30,7)").due("worth(2)", MUCH).due("worth(9)", MUCH);
    }

    private static void manyRefusalsChangeNothing() {
        sentence("What is refused, or found, changes nothing. (many calls behind one another)");
        String refused = " begin(6) grow(3) growBy(2) growBy(3) cut(6) drift(60,1) drift(1,0) sheet(0,65) set(0,0,65536)"
            + " set(0,2,98) drop(3) drop(4) kth(11,0) kth(11,3) absent(4) often(7,0) often(7,3) single(4) keep(2) goBack(0)"
            + " goBack(2)";
        on(RICH + refused.repeat(8)).alike(RICH);
    }

    private static void alphabet() {
        sentence("THE ALPHABET has K LETTERS (1 .. 5; 2 at first): 0, 1, ..");
        on("").due("count(0)", 2).due("grow(0)", 2).due("grow(1)", 2).due("grow(2)", BAD).due("grow(-1)", BAD);
        on("").due("move(0,1)", NONE).due("move(0,2)", BAD);
        for (int k = 1; k <= 5; k++) {
            Way here = on("begin(" + k + ")").due("count(0)", k);
            here.range("grow(#)", 0, k - 1, BAD).range("move(0,#)", 0, k - 1, BAD);
        }
    }

    private static void text() {
        sentence("THE TEXT is a row of 0 to 60 of them (none at first)");
        on("").due("count(1)", 0).due("letter(0)", PLACE).text("");
        on("text:" + "a".repeat(59)).due("grow(0)", 61).due("drift(1,1)", 60).due("drift(2,1)", FULL);
        on("text:" + "a".repeat(59) + " sheet(0,1) sheet(1,2)").due("growBy(0)", 60).due("growBy(1)", FULL);
        on(A60 + " sheet(0,1)").due("count(1)", 60).due("grow(1)", FULL).due("drift(1,1)", FULL).due("growBy(0)", FULL);
        on(A60).text("a".repeat(60));
        on(A60 + " cut(1) grow(1)").text("a".repeat(59) + "b").due("grow(1)", FULL);
        on("begin(5) drift(60,1) cut(60) drift(60,1)").alike("begin(5) drift(60,1)");
    }

    private static void emptyWord() {
        sentence("a WORD a row of 0 or more (the empty one stands everywhere); its ENDS (the empty one: 0, 1, .. to how "
            + "many there are)");
        on("sheet(0,0)").due("walk(0)", 0).each("times(0,#)", 1, 0, 0).due("state(0,3)", 1).each("end(0,#)", 0, NONE);
        on("text:b sheet(0,0)").due("walk(0)", 0).each("times(0,#)", 2, 0, 1).each("end(0,#)", 0, 1, NONE);
        on("text:b sheet(0,0)").due("gap(0)", 1).due("rank(0)", NONE);
        on(A60 + " sheet(0,0)").due("walk(0)", 0).each("times(0,#)", 61, 0, 60).due("end(0,60)", 60);
        on(A60).due("end(0,61)", NONE).due("state(0,3)", 61).due("state(0,4)", 0);
        on("text:abb cut(3) sheet(0,0)").each("times(0,#)", 1, 0, 0);
    }

    private static void ends() {
        sentence("its ENDS are behind how many letters of THE TEXT it ends");
        String last = "text:" + "a".repeat(59) + "b";
        on(last + " row0:b").each("times(0,#)", 1, 60, 60);
        on(last + " row0:a").each("times(0,#)", 59, 1, 59);
        on(last + " row0:" + "a".repeat(59) + "b").each("times(0,#)", 1, 60, 60).due("end(59,0)", 59);
        on(A60 + " row0:a").each("times(0,#)", 60, 1, 60).due("end(1,0)", 1).due("end(1,59)", 60).due("end(1,60)", NONE);
    }

    private static void order() {
        sentence("Words are ordered letter by letter, a beginning ahead of what goes on.");
        on("begin(5) text:aeab kth(0,0)").row(0, "a");
        on("begin(5) text:aeab kth(1,0)").row(0, "ab");
        on("begin(5) text:aeab kth(2,0)").row(0, "ae");
        on("begin(5) text:aeab kth(3,0)").row(0, "aea");
        on("begin(5) text:aeab kth(4,0)").row(0, "aeab");
        on("begin(5) text:aeab kth(5,0)").row(0, "b");
        on("begin(5) text:aeab kth(6,0)").row(0, "e");
        on("begin(5) text:aeab kth(8,0)").row(0, "eab").due("kth(9,0)", NONE);
    }

    private static void states() {
        sentence("A STATE is all WORDS with the same ENDS; LONGEST is how many letters its longest has, SHORTEST its "
            + "shortest. LINK of another one: the STATE of its shortest WORD without the first letter.");
        on("text:a").each("state(1,#)", 1, 1, 0, 1, 1, 1, NONE);
        // Each letter from the third on brings a clone: the most states that 60 letters can have.
        on(AB60).due("count(2)", 119).each("state(117,#)", 60, 59, 118, 1, 60, 60, NONE);
        on(AB60).each("state(118,#)", 58, 58, 116, 2, 59, 60, 115).due("state(119,0)", BAD);
        on("begin(1) " + A60).each("state(60,#)", 60, 60, 59, 1, 60, 60, NONE).due("state(61,0)", BAD);
    }

    private static void stateZero() {
        sentence("STATE 0 is that of the empty WORD (at first it is alone). If then WORDS of one older STATE do not have "
            + "the same ENDS any more (never of STATE 0). A STATE was MADE behind so many letters (0: STATE 0)");
        on("").due("count(2)", 1).due("state(1,0)", BAD).each("state(0,#)", 0, 0, NONE, 1, 0, 0, NONE);
        on("").due("move(1,0)", BAD).due("end(1,0)", BAD).due("count(3)", 0).due("count(4)", 0);
        on("text:a").each("state(0,#)", 0, 0, NONE, 2, 0, 0, NONE);
        on(AB60).each("state(0,#)", 0, 0, NONE, 61, 0, 0, NONE);
        for (int s = 1; s < 119; s++) {
            int of = s == 4 ? 2 : s > 4 && s % 2 == 0 ? s - 3 : NONE;
            on(AB60).due("state(" + s + ",6)", of);
        }
    }

    private static void moves() {
        sentence("MOVE of a STATE by a LETTER: the STATE of its WORDS with that LETTER behind; NONE: none is a WORD.");
        on("begin(5)").each("move(0,#)", NONE, NONE, NONE, NONE, NONE, BAD);
        on("begin(5) text:e").each("move(0,#)", NONE, NONE, NONE, NONE, 1, BAD);
        on("begin(5) text:e").each("move(1,#)", NONE, NONE, NONE, NONE, NONE, BAD);
        on(A60).due("move(59,0)", 60).due("move(60,0)", NONE).due("move(60,1)", NONE).due("move(61,0)", BAD);
    }

    private static void wholeText() {
        sentence("A LETTER comes behind THE TEXT: a STATE with the next number is that of all of THE TEXT.");
        on("text:b row0:b").due("count(2)", 2).due("walk(0)", 1);
        on("text:ab row0:ab").due("count(2)", 3).due("walk(0)", 2);
        on("text:abb row0:abb").due("count(2)", 5).due("walk(0)", 3);
        on(A60 + " sheet(0,60) sheet(1,61)").due("walk(0)", 60).due("walk(1)", NONE);
    }

    private static void clones() {
        sentence("those with the new END become a CLONE, a STATE with the number behind, the others keep theirs.");
        on("text:ab row0:b").due("walk(0)", 2).due("count(3)", 0).each("state(2,#)", 2, 1, 0, 1, 2, 2, NONE);
        on("text:abb row0:b").due("walk(0)", 4).due("count(3)", 1).each("state(4,#)", 1, 1, 0, 2, 2, 3, 2);
        on("text:abb").each("state(2,#)", 2, 2, 4, 1, 2, 2, NONE);
        on("begin(1) " + A60).due("count(3)", 0).due("count(2)", 61);
        on(AB60).due("count(3)", 58);
    }

    private static void oneCloneAtMost() {
        sentence("If then WORDS of one older STATE do not have the same ENDS any more (of one at most)");
        for (int n = 0; n <= 60; n++) {
            on("text:" + ("a" + "b".repeat(60)).substring(0, n)).due("count(2)", n < 2 ? n + 1 : 2 * n - 1);
            on("begin(1) text:" + "a".repeat(n)).due("count(2)", n + 1).due("count(3)", 0);
        }
    }

    private static void takenOff() {
        sentence("TAKEN OFF: THE TEXT has n letters less, all STATES are as if it had grown to that.");
        on("text:abb cut(0)").alike("text:abb");
        on("text:abb cut(1)").alike("text:ab");
        on("text:abb cut(3)").alike("");
        on("begin(5) cut(0)").alike("begin(5)");
        on(AB60 + " cut(59)").alike("text:a");
        on(AB60 + " cut(60)").alike("");
        on("begin(4) text:dabdabcabdad cut(5) text:abc").alike("begin(4) text:dabdabcabc");
    }

    private static void sheets() {
        sentence("SHEETS 0 .. 3 are missing (at first)");
        on("").each("size(#)", NULL, NULL, NULL, NULL, BAD).due("size(-1)", BAD).due("count(9)", 0);
        on("sheet(0,1) sheet(1,0) sheet(2,64) sheet(3,2)").each("size(#)", 1, 0, 64, 2, BAD).due("count(9)", 4);
        sentence("or rows of 0 to 64 characters");
        on("").range("sheet(0,#)", 0, 64, BAD).range("sheet(3,#)", 0, 64, BAD);
        on("sheet(2,64)").due("get(2,63)", 97).due("get(2,64)", PLACE).due("set(2,63,1)", 97).due("set(2,64,1)", PLACE);
        on("sheet(2,0)").due("size(2)", 0).due("get(2,0)", PLACE).due("set(2,0,1)", PLACE);
    }

    private static void behindTheLast() {
        sentence("or rows of 0 to 64 characters (what stood behind the last of them ahead of this is not there)");
        String shorter = "text:abab row0:bbbb sheet(0,1)";
        on(shorter).alike("text:abab row0:a").due("growBy(0)", 5).due("walk(0)", 1).each("times(0,#)", 2, 1, 3).due("rank(0)", 0);
        on(shorter).each("common(0,#)", 1, 0).due("gap(0)", 2).due("get(0,1)", PLACE).due("set(0,1,97)", PLACE);
        on(shorter + " growBy(0)").text("ababa");
        on("text:abab row0:bbbb kth(0,0)").alike("text:abab row0:a").each("common(0,#)", 1, 0);
        on("begin(1) row0:zzz sheet(0,2)").due("growBy(0)", 2);
    }

    private static void characters() {
        sentence("characters (0 .. 65535)");
        on("sheet(0,1)").range("set(0,0,#)", 0, 65535, BAD);
        on("sheet(0,1) set(0,0,0)").due("get(0,0)", 0).due("set(0,0,1)", 0);
        on("sheet(0,1) set(0,0,65535)").due("get(0,0)", 65535).due("set(0,0,1)", 65535);
    }

    private static void noLetters() {
        sentence("LETTER c stands there as 97 and c; a character that is no LETTER of THE ALPHABET is in no WORD.");
        for (int k = 1; k <= 5; k++) {
            String all = "begin(" + k + ") text:" + "abcde".substring(0, k) + " sheet(0,1) set(0,0,";
            on(all + 97 + ")").due("walk(0)", 1).due("times(0,0)", 1).due("common(0,0)", 1).due("growBy(0)", k + 1);
            on(all + (96 + k) + ")").due("walk(0)", k).due("times(0,0)", 1).due("common(0,0)", 1).due("growBy(0)", k + 1);
            for (int sign : new int[] {0, 1, 65, 96, 97 + k, 97 + 256, 65535}) {
                Way here = on(all + sign + ")").due("walk(0)", NONE).each("times(0,#)", 0, NONE, NONE).due("rank(0)", NONE);
                here.due("gap(0)", NONE).each("common(0,#)", 0, 0).due("growBy(0)", NOT);
            }
        }
        // A letter of a greater alphabet is none of this one.
        on("begin(5) text:e row0:e begin(4) text:d").due("walk(0)", NONE).due("growBy(0)", NOT).due("common(0,0)", 0);
    }

    private static void nothingButSheets() {
        sentence("OF WORDS (nothing is changed but SHEETS, as told).");
        String[] asked = {
            "walk(0)", "times(0,0)", "times(0,1)", "times(0,2)", "rank(0)", "missing(3)", "twice(1)", "unlike(5)", "gap(0)",
            "cover()", "part(0)", "common(0,0)", "common(2,1)", "border(0)", "next(1)", "worth(9)"};
        for (String call : asked) on(RICH + " " + call).alike(RICH);
        on(RICH + " kth(6,3)").alike(RICH + " row3:ba");
        on(RICH + " absent(3)").alike(RICH + " row3:c");
        on(RICH + " often(2,3)").alike(RICH + " row3:ab");
        on(RICH + " single(3)").alike(RICH + " row3:ba");
    }

    private static void lastCall() {
        sentence("An object is used for at most 512 calls after it has been made");
        // 511 calls ahead of the one that is asked.
        on("begin(5) " + "grow(4) ".repeat(60) + "count(5) ".repeat(450)).due("absent(0)", 1);
        on("grow(1) cut(1) ".repeat(255) + "grow(0)").due("grow(1)", 3);
        on("drift(60,5) cut(60) ".repeat(255) + "keep(0)").due("goBack(0)", 0);
        on("sheet(0,64) drop(0) ".repeat(255) + "sheet(3,0)").due("count(9)", 1);
        on("begin(1) " + "grow(0) ".repeat(510)).due("count(1)", 60);
    }
}
