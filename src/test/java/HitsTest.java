/** Promises 11 and 12: HITS and MOST. */
public final class HitsTest {
    private static final Due DUE = new Due("HitsTest");
    private static final int[] NO_ROW = {-1, 6, Integer.MIN_VALUE, Integer.MAX_VALUE};
    private static final int[] NO_MOVE = {-13, 13, Integer.MIN_VALUE, Integer.MAX_VALUE};

    public static void main(String[] args) {
        plainHits();
        roundHits();
        hitsRefused();
        most();
        mostWithoutMarks();
        mostRefused();
        DUE.end();
    }

    private static void plainHits() {
        LeanMarks x = new LeanMarks();
        x.row(0, 3, 3, 0x012);
        x.row(1, 5, 6, 0xF3450);
        DUE.is(11, "0 1 2 on . 3 4 5 0, by 1 and 3", x.hits(0, 1, 1, 3, false), 3);
        DUE.is(11, "by 0 and 3", x.hits(0, 1, 0, 3, false), 0);
        DUE.is(11, "by 2 and 4", x.hits(0, 1, 2, 4, false), 2);
        DUE.is(11, "by 4 and 0", x.hits(0, 1, 4, 0, false), 1);
        DUE.is(11, "by 2 and -2", x.hits(0, 1, 2, -2, false), 1);
        DUE.is(11, "the other way", x.hits(1, 0, -1, -3, false), 3);
        DUE.is(11, "beyond", x.hits(0, 1, 12, 12, false), 0);
        DUE.is(11, "beyond", x.hits(0, 1, -12, -12, false), 0);
        x.row(2, 2, 12, 0xFB);
        x.row(3, 2, 12, 0xFF);
        DUE.is(11, "no mark meets no mark", x.hits(3, 3, 0, 0, false), 0);
        // Line 11 moved by 4 is 15, which is told for no mark, and no line.
        DUE.is(11, "line 15 is no mark", x.hits(2, 3, 0, 4, false), 0);
        DUE.is(11, "line 15 is no mark", x.hits(2, 2, -1, 4, false), 0);
        DUE.is(11, "laid on itself", x.hits(2, 2, 0, 0, false), 1);
    }

    private static void roundHits() {
        LeanMarks x = new LeanMarks();
        x.row(0, 3, 3, 0x012);
        DUE.is(11, "round by 1 and 1", x.hits(0, 0, 1, 1, true), 3);
        DUE.is(11, "round by 1 and -2", x.hits(0, 0, 1, -2, true), 3);
        DUE.is(11, "round by -2 and 1", x.hits(0, 0, -2, 1, true), 3);
        DUE.is(11, "round by 12 and -12", x.hits(0, 0, 12, -12, true), 3);
        DUE.is(11, "round by 1 and 0", x.hits(0, 0, 1, 0, true), 0);
        // Columns and lines that b has not do not come round.
        x.row(1, 6, 6, 0x012012);
        DUE.is(11, "columns beyond b's", x.hits(1, 0, 0, 0, true), 3);
        x.row(2, 3, 6, 0x345);
        DUE.is(11, "lines beyond b's", x.hits(2, 0, 0, 0, true), 0);
        DUE.is(11, "by b's columns and lines, not a's", x.hits(0, 1, 5, 5, true), 2);
        DUE.is(11, "by b's columns and lines, not a's", x.hits(0, 1, 6, 6, true), 3);
        DUE.is(11, "by b's columns and lines, not a's", x.hits(0, 1, 4, 1, true), 2);
        x.row(3, 3, 3, 0xFFF);
        DUE.is(11, "no marks", x.hits(3, 3, 0, 0, true), 0);
        DUE.is(11, "no marks", x.hits(0, 3, 0, 0, true), 0);
        // The mark in line 2 has no place among b's two lines; line 15 of none has none either.
        x.row(4, 3, 2, 0x01F);
        DUE.is(11, "two of three", x.hits(0, 4, 0, 0, true), 2);
        x.row(5, 3, 12, 0xF2F);
        DUE.is(11, "none is no mark, round", x.hits(5, 5, 0, 0, true), 1);
        DUE.is(11, "none is no mark, round", x.hits(5, 5, 3, 12, true), 1);
    }

    private static void hitsRefused() {
        LeanMarks x = new LeanMarks();
        for (boolean round : new boolean[] {false, true}) {
            for (int bad : NO_ROW) {
                DUE.is(11, "a = " + bad, x.hits(bad, 0, 0, 0, round), LeanMarks.BAD);
                DUE.is(11, "b = " + bad, x.hits(0, bad, 0, 0, round), LeanMarks.BAD);
            }
            for (int bad : NO_MOVE) {
                DUE.is(11, "dx = " + bad, x.hits(0, 0, bad, 0, round), LeanMarks.BAD);
                DUE.is(11, "dy = " + bad, x.hits(0, 0, 0, bad, round), LeanMarks.BAD);
            }
        }
    }

    private static void mostDue(LeanMarks x, int a, int b, int[] want) {
        for (int what = 0; what < 4; what++) {
            DUE.is(12, "most(" + a + ", " + b + ", " + what + ")", x.most(a, b, what), want[what]);
        }
    }

    private static void most() {
        LeanMarks x = new LeanMarks();
        x.row(0, 3, 3, 0x012);
        x.row(1, 3, 3, 0x012);
        x.row(2, 12, 12, 0x0123456789ABL);
        x.row(3, 2, 1, 0x00);
        // On itself without the move by nothing: 2 at (-1, -1) and (1, 1), 1 at (-2, -2) and (2, 2).
        mostDue(x, 0, 0, new int[] {2, -1, -1, 10});
        // An equal ROW of another number is another ROW: the move by nothing counts.
        mostDue(x, 0, 1, new int[] {3, 0, 0, 19});
        // 0 1 2 lies whole at ten places; 2 and 1 at both ends.
        mostDue(x, 0, 2, new int[] {3, 0, 0, 10 * 9 + 2 * (4 + 1)});
        mostDue(x, 2, 0, new int[] {3, -9, -9, 10 * 9 + 2 * (4 + 1)});
        mostDue(x, 2, 2, new int[] {11, -1, -1, 2 * 506});
        // Two marks in line 0: the first by dx at (-1, 0); each meets each of the other ROW.
        mostDue(x, 3, 3, new int[] {1, -1, 0, 2});
        mostDue(x, 3, 0, new int[] {1, -1, 0, 6});
        x.row(4, 2, 12, 0xB0);
        x.row(5, 1, 12, 0x5);
        // First by dx, then by dy.
        mostDue(x, 4, 5, new int[] {1, -1, 5, 2});
        mostDue(x, 5, 4, new int[] {1, 0, 6, 2});
        x.row(4, 12, 12, 0xB0000000000BL);
        mostDue(x, 4, 4, new int[] {9, -1, 0, 2 * (81 + 64 + 49 + 36 + 25 + 16 + 9 + 4 + 1) + 2 + 4 * 10});
        DUE.is(12, "most changes nothing", x.marks(0), 0x012);
    }

    private static void mostWithoutMarks() {
        LeanMarks x = new LeanMarks();
        x.row(1, 12, 12, 0xFFFFFFFFFFFFL);
        mostDue(x, 0, 0, new int[] {0, -12, -12, 0});
        mostDue(x, 1, 1, new int[] {0, -12, -12, 0});
        mostDue(x, 0, 1, new int[] {0, -12, -12, 0});
        mostDue(x, 1, 0, new int[] {0, -12, -12, 0});
        mostDue(x, 0, 2, new int[] {1, 0, 0, 1});
    }

    private static void mostRefused() {
        LeanMarks x = new LeanMarks();
        for (int bad : NO_ROW) {
            DUE.is(12, "a = " + bad, x.most(bad, 0, 0), -100);
            DUE.is(12, "b = " + bad, x.most(0, bad, 0), -100);
        }
        for (int bad : new int[] {-1, 4, Integer.MIN_VALUE, Integer.MAX_VALUE}) {
            DUE.is(12, "what = " + bad, x.most(0, 0, bad), -100);
        }
    }
}
