/** The paragraph on BAD, NO, NONE and FULL, call by call, on an object full of everything; and the last call. */
public final class RefusedEdgesTest {
    private static final Due DUE = new Due("RefusedEdgesTest");
    private static final int BAD = LeanMarks.BAD, NO = LeanMarks.NO, FULL = LeanMarks.FULL, NONE = LeanMarks.NONE;
    private static final int NO_DIFFERENCE = -50, FAR_BAD = -100;
    private static final int COUNT = -1, OFF = 0, ON = 1;
    /** ROWS of the busy object: a SQUARE of 12, one of 4, one of 1, no SQUARE of 4, none of 9, unlike LINES. */
    private static final int WIDEST = 0, LEAN = 1, SMALLEST = 2, FLAT = 3, NINE = 4, UNLIKE = 5;

    public static void main(String[] args) {
        bad();
        no();
        none();
        full();
        badAheadOfNo();
        badAheadOfNone();
        badAheadOfFull();
        noAheadOfNoneAndFull();
        nothingChanges();
        lastCall();
        DUE.end();
    }

    /** 60 bytes with a FAULT (a seventh row), ROWS of every kind, 40 HEARD marks. */
    private static Calls busy() {
        Calls x = new Calls(DUE);
        x.write("abc;ab;a;abcdefghijkl;abcdefghijkl;abcdefghijkl;abcdefghijkl");
        x.call("row", WIDEST, 12, 12, 0x0123456789ABL);
        x.call("row", LEAN, 4, 4, 0x0132);
        x.call("row", SMALLEST, 1, 1, 0x0);
        x.call("row", FLAT, 4, 4, 0x1111);
        x.call("row", NINE, 9, 9, 0xFFFFFFFFFL);
        x.call("row", UNLIKE, 3, 4, 0x0F3);
        for (int i = 0; i < 40; i++) {
            x.call("hear", i % 31, i / 31);
        }
        return x;
    }

    private static void bad() {
        DUE.sentence(0, "BAD: a number is none that is told.");
        Calls x = busy();
        x.beyond(BAD, "row", 0, 0, 5, 0, 1, 1, 0);
        x.beyond(BAD, "write", 0, 1, 8, 1, 'a');
        x.beyond(BAD, "lay", 0, 1, 12, 12);
        x.beyond(BAD, "told", 0, 0, 5, 0, 2);
        x.beyond(BAD, "marks", 0, 0, 5, 0);
        x.beyond(FAR_BAD, "difference", 0, 0, 5, 0, 0, 1, 0);
        x.beyond(BAD, "quarrels", 0, 0, 5, 0, 0, 0);
        x.beyond(BAD, "hits", 0, 0, 5, 0, 0, 0, 0, ON);
        x.beyond(FAR_BAD, "most", 1, 0, 5, 0, 0, 0);
        x.beyond(BAD, "squares", 2, 0, 5, 4, 0, 0);
        x.beyond(BAD, "holding", 0, 0, 5, 0, 0, LEAN);
        x.beyond(BAD, "nearly", 0, 1, 6, 6, 0);
        x.beyond(BAD, "rows", 4, 0, 5, 3, 3, 0, 0, 0);
        x.beyond(BAD, "longest", 0, 1, 4, 4, 0);
        x.beyond(BAD, "powers", 3, 0, 5, 13, 2, 0, 0);
        x.beyond(BAD, "sums", 3, 0, 5, 13, 2, 2, 0);
        x.beyond(BAD, "turn", 0, 0, 5, 0, 1);
        x.beyond(BAD, "like", 0, 0, 5, 0);
        x.beyond(BAD, "corner", 0, 0, 5, 0, 0, OFF);
        x.beyond(BAD, "hear", 0, 0, 30, 0, 20);
        x.beyond(FAR_BAD, "found", 0, 0, 5, 0, 0);
        x.beyond(BAD, "among", 0, 0, 1, 0);
        x.beyond(BAD, "count", 0, 0, 3, 0);
    }

    private static void no() {
        DUE.sentence(0, "NO: not as things stand.");
        Calls x = busy();
        x.due(NO, "lay", 12);
        x.due(NO, "holding", NINE, 0, LEAN);
        x.due(NO, "holding", UNLIKE, COUNT, LEAN);
        x.due(NO, "powers", 13, 12, 0, LEAN);
        x.due(NO, "sums", 13, 12, 2, LEAN);
        x.due(NO, "turn", FLAT, 1);
        x.due(NO, "turn", UNLIKE, 0);
        x.due(NO, "like", NINE);
        x.due(NO, "corner", WIDEST, 0, ON);
        x.due(NO, "corner", WIDEST, 1, OFF);
        x.due(NO, "corner", SMALLEST, 0, OFF);
        x.due(NO, "corner", FLAT, 0, ON);
        x.due(NO, "hear", 0, 0);
        // As soon as things stand otherwise, the same calls are taken.
        x.due(60, "wipe");
        x.due(0, "lay", 12);
        x.due(11, "corner", WIDEST, 0, OFF);
        x.due(12, "corner", WIDEST, 0, ON);
        x.due(2, "corner", SMALLEST, 0, ON);
        x.due(1, "corner", SMALLEST, 0, OFF);
        x.due(40, "still");
        x.due(1, "hear", 0, 0);
    }

    private static void none() {
        DUE.sentence(0, "NONE: there is none.");
        Calls x = busy();
        x.due(NONE, "told", UNLIKE, 3);
        x.due(NONE, "told", UNLIKE, 5);
        x.due(NO_DIFFERENCE, "difference", UNLIKE, 0, 1, 0);
        x.due(NO_DIFFERENCE, "difference", UNLIKE, 2, 1, 1);
        x.due(NONE, "quarrels", LEAN, 0, 0);
        x.due(NONE, "squares", 4, 12, LEAN);
        x.due(NONE, "holding", LEAN, 1, LEAN);
        x.due(NONE, "holding", FLAT, 0, LEAN);
        x.due(NONE, "rows", 3, 1, 0, 0, LEAN);
        x.due(60, "wipe");
        x.due(NONE, "fault");
    }

    private static void full() {
        DUE.sentence(0, "FULL.");
        Calls x = busy();
        x.due(FULL, "write", 1, ';');
        x.due(FULL, "write", 8, ';');
        x.due(FULL, "hear", 30, 20);
        x.due(60, "wipe");
        x.due(1, "write", 1, ';');
        x.due(40, "still");
        x.due(1, "hear", 30, 20);
    }

    private static void badAheadOfNo() {
        DUE.sentence(0, "BAD .. NO .. Of several the first");
        Calls x = busy();
        x.beyond(BAD, "lay", 0, 1, 12, 1);
        x.due(BAD, "holding", NINE, -2, LEAN);
        x.due(BAD, "holding", UNLIKE, 0, 6);
        x.due(BAD, "powers", 13, 12, 12, LEAN);
        x.due(BAD, "powers", 13, 12, 0, 6);
        x.due(BAD, "sums", 13, 12, 13, LEAN);
        x.due(BAD, "sums", 13, 12, 2, 6);
        x.due(BAD, "turn", FLAT, 8);
        x.due(BAD, "corner", FLAT, 4, ON);
        x.due(BAD, "corner", SMALLEST, 4, OFF);
        x.due(BAD, "corner", WIDEST, -1, ON);
    }

    private static void badAheadOfNone() {
        DUE.sentence(0, "BAD .. NONE .. Of several the first");
        Calls x = busy();
        x.due(BAD, "told", SMALLEST, 14);
        x.due(FAR_BAD, "difference", UNLIKE, 0, 1, 2);
        x.due(FAR_BAD, "difference", UNLIKE, 2, 12, 0);
        x.due(FAR_BAD, "difference", UNLIKE, 12, 1, 0);
        x.due(BAD, "quarrels", LEAN, 2, 0);
        x.due(BAD, "squares", 4, 12, 6);
        x.due(BAD, "holding", LEAN, 1, -1);
        x.due(BAD, "rows", 3, 1, 0, 0, 6);
        x.due(BAD, "rows", 3, 1, 2, 0, 0);
    }

    private static void badAheadOfFull() {
        DUE.sentence(0, "BAD .. FULL. Of several the first");
        Calls x = busy();
        x.due(BAD, "write", 0, 'a');
        x.due(BAD, "write", 9, 'a');
        x.due(BAD, "hear", 31, 0);
        x.due(BAD, "hear", 0, -21);
    }

    private static void noAheadOfNoneAndFull() {
        DUE.sentence(0, "NO .. NONE .. FULL. Of several the first");
        Calls x = busy();
        x.due(NO, "holding", NINE, Integer.MAX_VALUE, LEAN);
        x.due(NO, "holding", UNLIKE, Integer.MAX_VALUE, LEAN);
        x.due(NO, "hear", 30, 0);
        x.due(NO, "hear", 8, 1);
        x.due(FULL, "hear", 9, 1);
    }

    private static void nothingChanges() {
        DUE.sentence(0, "nothing changes then");
        Calls x = busy();
        x.due(BAD, "row", LEAN, 4, 4, 0x0124);
        x.due(BAD, "row", LEAN, 2, 4, 0x0132);
        x.due(FULL, "write", 3, Calls.bytes("a;a"));
        x.due(NO, "lay", 12);
        x.due(NONE, "squares", 8, 444, LEAN);
        x.due(NO, "powers", 7, 2, 0, LEAN);
        x.due(NO, "sums", 7, 2, 3, LEAN);
        x.due(NO, "turn", UNLIKE, 5);
        x.due(NO, "corner", LEAN, 3, OFF);
        x.due(FULL, "hear", 20, 20);
        x.rowDue(WIDEST, 12, 12, 0x0123456789ABL);
        x.rowDue(LEAN, 4, 4, 0x0132);
        x.rowDue(SMALLEST, 1, 1, 0x0);
        x.rowDue(FLAT, 4, 4, 0x1111);
        x.rowDue(NINE, 9, 9, 0xFFFFFFFFFL);
        x.rowDue(UNLIKE, 3, 4, 0x0F3);
        x.due(60, "count", 0);
        x.due(12 + 4 + 1 + 4 + 0 + 2, "count", 1);
        x.due(40, "count", 2);
        x.due(12 + 4 + 1 + 4 + 9 + 3, "count", 3);
        x.due(48, "fault");
    }

    private static void lastCall() {
        DUE.sentence(0, "An object is used for at most 512 calls after it has been made");
        Calls x = busy();
        // 8 writes, 6 ROWS and 40 marks are made; a quarter turn more each time, and 456 of them come round.
        for (int call = 8 + 6 + 40; call < 510; call++) {
            x.call("turn", LEAN, 1);
        }
        x.due(0x0132, "marks", LEAN);
        x.due(23, "count", 1);
    }
}
