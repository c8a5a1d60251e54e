/** Promises 12 to 16, the sheets: each sentence that names a boundary has a test of its own. */
public final class SheetBoundariesTest extends Boundaries {
    private static final String FOUR = "row0:w row1:xy sheet(2,0) sheet(3,64)";

    public static void main(String[] args) {
        sheet();
        sheetSize();
        sheetAnew();
        set();
        setCharacter();
        setMissing();
        setPlace();
        get();
        getMissing();
        getPlace();
        size();
        drop();
        dropMissing();
        finish("SheetBoundariesTest");
    }

    private static void sheet() {
        sentence("A SHEET is there. BAD. (0 .. 3)");
        on("").range("sheet(#,0)", 0, 3, BAD).range("sheet(#,64)", 0, 3, BAD);
        on(FOUR).range("sheet(#,1)", 0, 3, BAD).due("sheet(4,65)", BAD).due("sheet(-1,-1)", BAD);
        on("sheet(3,1)").row(0, null).row(1, null).row(2, null).row(3, "a").due("count(9)", 1);
        on("sheet(0,1)").row(0, "a").row(1, null).row(2, null).row(3, null).due("count(9)", 1);
    }

    private static void sheetSize() {
        sentence("with n characters 97 (0 .. 64): n.");
        on("").range("sheet(0,#)", 0, 64, BAD).due("sheet(0,0)", 0).due("sheet(0,1)", 1).due("sheet(0,64)", 64);
        on(FOUR).range("sheet(3,#)", 0, 64, BAD).range("sheet(2,#)", 0, 64, BAD);
        on("sheet(1,64)").row(1, "a".repeat(64));
        on("sheet(1,0)").row(1, "").due("count(9)", 1);
    }

    private static void sheetAnew() {
        sentence("A SHEET is there with n characters 97 (where it was there already)");
        on("row0:xyz sheet(0,3)").alike("sheet(0,3)");
        on("row0:xyz sheet(0,2) sheet(0,3)").alike("sheet(0,3)");
        on("row0:xyz sheet(0,0)").alike("sheet(0,0)");
        on("row0:xyz drop(0) sheet(0,3)").alike("sheet(0,3)");
        on("row0:" + "z".repeat(64) + " sheet(0,64)").alike("sheet(0,64)");
    }

    private static void set() {
        sentence("Character i of a SHEET becomes v: what it was. BAD. (the SHEET)");
        on(FOUR).due("set(0,0,98)", 'w').due("set(1,1,98)", 'y').due("set(3,63,98)", 97);
        on(FOUR).due("set(4,0,98)", BAD).due("set(-1,0,98)", BAD).due("set(" + MOST + ",0,98)", BAD);
        on(FOUR).due("set(" + LEAST + ",0,98)", BAD).due("set(4,-1,65536)", BAD).due("set(4,0,-1)", BAD);
        on(FOUR + " set(1,1,122)").alike("row0:w row1:xz sheet(2,0) sheet(3,64)");
    }

    private static void setCharacter() {
        sentence("becomes v (0 .. 65535). BAD");
        on("sheet(0,64)").range("set(0,0,#)", 0, 65535, BAD).range("set(0,63,#)", 0, 65535, BAD);
        on("sheet(0,1) set(0,0,65535)").due("get(0,0)", 65535).due("set(0,0,0)", 65535);
        on("sheet(0,1) set(0,0,0)").due("get(0,0)", 0).due("set(0,0,65535)", 0);
        on("sheet(0,1)").due("set(0,1,65536)", BAD).due("set(0,-1,-1)", BAD);
        on("").due("set(0,0,65536)", BAD).due("set(0,0,-1)", BAD).due("set(3,0," + LEAST + ")", BAD);
    }

    private static void setMissing() {
        sentence("Character i of a SHEET becomes v: NULL");
        for (int s = 0; s < 4; s++) {
            on("").due("set(" + s + ",0,97)", NULL).due("set(" + s + ",-1,0)", NULL).due("set(" + s + ",64,65535)", NULL);
            on(FOUR + " drop(" + s + ")").due("set(" + s + ",0,97)", NULL).due("set(" + s + "," + MOST + ",97)", NULL);
        }
    }

    private static void setPlace() {
        sentence("Character i of a SHEET becomes v: PLACE.");
        on(FOUR).range("set(0,#,98)", 0, 0, PLACE).range("set(1,#,98)", 0, 1, PLACE).range("set(3,#,98)", 0, 63, PLACE);
        on(FOUR).refuses("set(2,#,98)", -1, PLACE);
        on("sheet(0,9) sheet(0,2)").range("set(0,#,98)", 0, 1, PLACE);
    }

    private static void get() {
        sentence("Character i of a SHEET. BAD");
        on(FOUR).due("get(0,0)", 'w').due("get(1,0)", 'x').due("get(1,1)", 'y').due("get(3,63)", 97);
        on(FOUR).due("get(4,0)", BAD).due("get(-1,0)", BAD).due("get(" + MOST + ",0)", BAD).due("get(" + LEAST + ",0)", BAD);
        on(FOUR).due("get(4,-1)", BAD).due("get(-1,64)", BAD);
        on("").due("get(4,0)", BAD).due("get(-1,0)", BAD);
    }

    private static void getMissing() {
        sentence("Character i of a SHEET. NULL");
        for (int s = 0; s < 4; s++) {
            on("").due("get(" + s + ",0)", NULL).due("get(" + s + ",-1)", NULL).due("get(" + s + ",64)", NULL);
            on(FOUR + " drop(" + s + ")").due("get(" + s + ",0)", NULL).due("get(" + s + "," + LEAST + ")", NULL);
        }
    }

    private static void getPlace() {
        sentence("Character i of a SHEET. PLACE.");
        on(FOUR).range("get(0,#)", 0, 0, PLACE).range("get(1,#)", 0, 1, PLACE).range("get(3,#)", 0, 63, PLACE);
        on(FOUR).refuses("get(2,#)", -1, PLACE);
        on("sheet(0,9) sheet(0,2)").range("get(0,#)", 0, 1, PLACE);
        on("text:abbab kth(10,0) kth(0,0)").range("get(0,#)", 0, 0, PLACE);
    }

    private static void size() {
        sentence("How many characters a SHEET has. BAD; NULL.");
        on(FOUR).range("size(#)", 0, 3, BAD).each("size(#)", 1, 2, 0, 64, BAD);
        on("").range("size(#)", 0, 3, BAD).each("size(#)", NULL, NULL, NULL, NULL, BAD);
        on(FOUR + " drop(2) drop(3)").each("size(#)", 1, 2, NULL, NULL, BAD);
    }

    private static void drop() {
        sentence("A SHEET is missing: how many characters it had. BAD");
        on(FOUR).range("drop(#)", 0, 3, BAD).each("drop(#)", 1, 2, 0, 64, BAD);
        on("").range("drop(#)", 0, 3, BAD);
        on(FOUR + " drop(0) drop(1) drop(2) drop(3)").alike("");
        on(FOUR + " drop(1)").row(0, "w").row(1, null).row(2, "").row(3, "a".repeat(64)).due("count(9)", 3);
    }

    private static void dropMissing() {
        sentence("A SHEET is missing: NULL.");
        on("").each("drop(#)", NULL, NULL, NULL, NULL, BAD);
        on(FOUR + " drop(3)").due("drop(3)", NULL).due("drop(2)", 0);
        on("sheet(0,0) drop(0)").due("drop(0)", NULL).due("count(9)", 0);
    }
}
