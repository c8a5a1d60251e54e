/** Promises 34 and 35, the images: each sentence that names a boundary has a test of its own. */
public final class ImageBoundariesTest extends Boundaries {
    public static void main(String[] args) {
        keep();
        keepAnew();
        goBack();
        notKept();
        allAsKept();
        sheetsAreNotKept();
        finish("ImageBoundariesTest");
    }

    private static void keep() {
        sentence("THE ALPHABET, THE TEXT, all STATES are kept in IMAGE i (0, 1): how many letters. BAD.");
        on("").range("keep(#)", 0, 1, BAD).each("keep(#)", 0, 0, BAD);
        on("text:abb").range("keep(#)", 0, 1, BAD).each("keep(#)", 3, 3, BAD);
        on(A60).range("keep(#)", 0, 1, BAD).each("keep(#)", 60, 60, BAD);
        on("begin(3) keep(0)").due("goBack(0)", 0).due("goBack(1)", NOT).due("count(0)", 3).due("count(1)", 0);
        on("begin(3) text:cab keep(1)").due("goBack(1)", 3).due("goBack(0)", NOT).text("cab");
    }

    private static void keepAnew() {
        sentence("are kept in IMAGE i: (where one was kept already, and beside the other)");
        on("text:abb keep(0) cut(2) keep(0)").alike("text:a keep(0)");
        on("text:abb keep(0) cut(2) keep(1)").due("goBack(0)", 3).due("goBack(1)", 1);
        on(A60 + " keep(0) begin(3) text:c keep(0) begin(2) goBack(0)").alike("begin(3) text:c keep(0)");
    }

    private static void goBack() {
        sentence("All is as it was kept: how many letters. BAD");
        on("keep(0) keep(1)").range("goBack(#)", 0, 1, BAD);
        on("text:abb").range("goBack(#)", 0, 1, BAD);
        on("keep(0) " + A60 + " keep(1)").each("goBack(#)", 0, 60, BAD);
        on("text:abb keep(1) cut(3)").due("goBack(1)", 3).due("goBack(2)", BAD).due("goBack(-1)", BAD);
    }

    private static void notKept() {
        sentence("NOT: it was not kept.");
        on("").each("goBack(#)", NOT, NOT, BAD);
        on("text:abb").each("goBack(#)", NOT, NOT, BAD);
        on("keep(0)").each("goBack(#)", 0, NOT, BAD);
        on("keep(1)").each("goBack(#)", NOT, 0, BAD);
        on("text:abb keep(2) keep(-1)").each("goBack(#)", NOT, NOT, BAD);
        // What was kept stays kept.
        on("text:abb keep(0) goBack(0) begin(5)").each("goBack(#)", 3, NOT, BAD);
    }

    private static void allAsKept() {
        sentence("All is as it was kept");
        String kept = "begin(3) text:abbab keep(0)";
        on(kept + " goBack(0)").alike(kept);
        on(kept + " begin(5) drift(60,9) goBack(0)").alike(kept);
        on(kept + " cut(5) goBack(0)").alike(kept);
        on(kept + " text:ccc goBack(0) goBack(0)").alike(kept);
        on(kept + " text:cc goBack(0) text:ab").alike(kept + " text:ab");
        on(kept + " text:cc goBack(0) cut(2)").alike(kept + " cut(2)");
        on("keep(1) " + A60 + " goBack(1)").alike("keep(1)");
        on("begin(5) drift(60,9) keep(1) begin(1) goBack(1)").alike("begin(5) drift(60,9) keep(1)");
        on("begin(1) keep(0) begin(5) drift(60,9) goBack(0)").due("grow(1)", BAD).due("grow(0)", 2);
        on("begin(5) keep(0) begin(1) " + A60 + " goBack(0)").due("grow(4)", 2).due("grow(5)", BAD);
    }

    private static void sheetsAreNotKept() {
        sentence("THE ALPHABET, THE TEXT, all STATES are kept (SHEETS are not named)");
        on("row0:xy keep(0) drop(0) row1:z goBack(0)").row(0, null).row(1, "z").row(2, null);
    }
}
