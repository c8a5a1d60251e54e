/** Promises 9 to 11, the states: each sentence that names a boundary has a test of its own. */
public final class StateBoundariesTest extends Boundaries {
    public static void main(String[] args) {
        state();
        stateWhat();
        stateLink();
        stateClone();
        move();
        moveLetter();
        moveNone();
        end();
        endNone();
        endBelow();
        finish("StateBoundariesTest");
    }

    private static void state() {
        sentence("Of a STATE: BAD. (no such STATE)");
        on("").range("state(#,0)", 0, 0, BAD);
        on("text:b").range("state(#,3)", 0, 1, BAD);
        on("text:abb").range("state(#,5)", 0, 4, BAD);
        on("text:abb cut(1)").range("state(#,0)", 0, 2, BAD);
        on("text:abb begin(2)").range("state(#,0)", 0, 0, BAD);
        on(A60).range("state(#,1)", 0, 60, BAD);
        on(AB60).range("state(#,4)", 0, 118, BAD);
    }

    private static void stateWhat() {
        sentence("0 LONGEST, .. 6 the STATE it is a CLONE OF. BAD. (what)");
        on("").range("state(0,#)", 0, 6, BAD);
        on("text:abb").range("state(4,#)", 0, 6, BAD).range("state(3,#)", 0, 6, BAD);
        on("text:abb").due("state(5,7)", BAD).due("state(-1,-1)", BAD).due("state(" + MOST + "," + LEAST + ")", BAD);
        on("text:abbab").each("state(4,#)", 1, 1, 0, 3, 2, 3, 2, BAD).each("state(6,#)", 5, 3, 2, 1, 5, 5, NONE, BAD);
    }

    private static void stateLink() {
        sentence("2 LINK (NONE: STATE 0)");
        on("").due("state(0,2)", NONE);
        on(AB60).due("state(0,2)", NONE).due("state(1,2)", 0).due("state(118,2)", 116).due("state(117,2)", 118);
        on("begin(1) " + A60).due("state(0,2)", NONE).due("state(1,2)", 0).due("state(60,2)", 59);
    }

    private static void stateClone() {
        sentence("5 behind how many letters it was MADE, 6 the STATE it is a CLONE OF (NONE).");
        on("").due("state(0,5)", 0).due("state(0,6)", NONE);
        on("text:abb").due("state(3,6)", NONE).due("state(4,6)", 2).due("state(2,6)", NONE).due("state(4,5)", 3);
        on("text:abb cut(1)").due("state(2,6)", NONE).due("state(4,6)", BAD);
        on(AB60).due("state(117,5)", 60).due("state(118,5)", 60).due("state(118,6)", 115).due("state(117,6)", NONE);
    }

    private static void move() {
        sentence("MOVE; NONE. BAD: no STATE");
        on("").range("move(#,1)", 0, 0, BAD);
        on("text:abb").range("move(#,0)", 0, 4, BAD).range("move(#,1)", 0, 4, BAD);
        on("text:abb cut(1)").range("move(#,0)", 0, 2, BAD);
        on(AB60).range("move(#,1)", 0, 118, BAD);
    }

    private static void moveLetter() {
        sentence("BAD: no LETTER.");
        for (int k = 1; k <= 5; k++) {
            on("begin(" + k + ")").range("move(0,#)", 0, k - 1, BAD);
            on("begin(" + k + ") text:aa").range("move(2,#)", 0, k - 1, BAD).due("move(3," + k + ")", BAD);
        }
        on("begin(5) text:e keep(0) begin(2)").due("move(0,4)", BAD);
        on("begin(5) text:e keep(0) begin(2) goBack(0)").due("move(0,4)", 1);
    }

    private static void moveNone() {
        sentence("MOVE; NONE.");
        on("").each("move(0,#)", NONE, NONE, BAD);
        on("text:b").each("move(0,#)", NONE, 1, BAD).each("move(1,#)", NONE, NONE, BAD);
        on(AB60).each("move(0,#)", 1, 4, BAD).each("move(117,#)", NONE, NONE, BAD).each("move(118,#)", NONE, 117, BAD);
        on("text:ab cut(1)").each("move(0,#)", 1, NONE, BAD).each("move(1,#)", NONE, NONE, BAD);
        on("text:ab begin(2)").each("move(0,#)", NONE, NONE, BAD);
    }

    private static void end() {
        sentence("The k-th END of a STATE (0 the least). BAD: no STATE");
        on("").range("end(#,0)", 0, 0, BAD).due("end(0,0)", 0);
        on("text:abbab").range("end(#,0)", 0, 6, BAD).each("end(4,#)", 2, 3, 5, NONE);
        on(AB60).range("end(#,0)", 0, 118, BAD).each("end(118,#)", 59, 60, NONE).each("end(117,#)", 60, NONE);
        on(AB60).due("end(4,0)", 2).due("end(4,58)", 60).due("end(4,59)", NONE);
    }

    private static void endNone() {
        sentence("NONE: not so many.");
        on("").due("end(0,1)", NONE).due("end(0," + MOST + ")", NONE);
        on("text:b").each("end(0,#)", 0, 1, NONE).each("end(1,#)", 1, NONE);
        on(A60).due("end(0,60)", 60).due("end(0,61)", NONE).due("end(0,62)", NONE).due("end(0,63)", NONE);
        on(A60).due("end(0,64)", NONE).due("end(0,65)", NONE).due("end(60,1)", NONE).due("end(60," + MOST + ")", NONE);
    }

    private static void endBelow() {
        sentence("BAD: no STATE, k below 0.");
        on("").due("end(0,-1)", BAD).due("end(0," + LEAST + ")", BAD).due("end(1,-1)", BAD).due("end(1,0)", BAD);
        on(A60).due("end(60,0)", 60).due("end(60,-1)", BAD).due("end(61,0)", BAD).due("end(61," + MOST + ")", BAD);
        on("text:abb").due("end(5,-1)", BAD).due("end(5,7)", BAD).due("end(-1,7)", BAD);
    }
}
