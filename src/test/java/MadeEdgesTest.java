/** The boundary cases of promises 18 to 22, a test for each of the document's sentences that names one. */
public final class MadeEdgesTest {
    private static final Due DUE = new Due("MadeEdgesTest");
    private static final int BAD = LeanMarks.BAD, NO = LeanMarks.NO;
    private static final int OFF = 0, ON = 1;
    private static final int[] PRIMES = {3, 5, 7, 11, 13};
    /** Columns, LINES and marks of ROWS that are no SQUARE, each for one reason alone but the last two. */
    private static final long[][] NOT_SQUARE = {{3, 4, 0x012}, {2, 3, 0x12}, {1, 2, 0x0}, {1, 12, 0xB}, {3, 3, 0x01F},
        {3, 3, 0xF01}, {1, 1, 0xF}, {12, 12, 0x0123456789AFL}, {3, 3, 0x011}, {2, 2, 0x00}, {2, 2, 0x11}, {3, 3, 0x121},
        {12, 12, 0x0123456789A0L}, {12, 12, 0xB123456789ABL},
        {2, 1, 0x00}, {12, 11, 0x0123456789A0L}};

    public static void main(String[] args) {
        powersPrimes();
        powersRoots();
        powersShift();
        powersNo();
        powersBad();
        sumsPrimes();
        sumsRoots();
        sumsNo();
        sumsBad();
        turnSmallest();
        turnWidest();
        turnRest();
        turnOtherWay();
        turnNo();
        turnBad();
        likeEnds();
        likeNo();
        likeBad();
        cornerPlaces();
        cornerOffSmallest();
        cornerOffNotThere();
        cornerOnWidest();
        cornerNo();
        cornerBad();
        DUE.end();
    }

    private static void powersPrimes() {
        DUE.sentence(18, "POWERS by a prime p (3, 5, 7, 11, 13) .. p - 1 columns and LINES");
        int[] root = {2, 2, 3, 2, 2};
        for (int i = 0; i < PRIMES.length; i++) {
            Calls x = new Calls(DUE);
            int p = PRIMES[i];
            x.due(p - 1, "powers", p, root[i], 0, 5);
            x.due(p - 1, "told", 5, 0);
            x.due(p - 1, "told", 5, 1);
            x.due(0, "told", 5, 2);
            x.due(root[i] - 1, "told", 5, 3);
        }
        Calls x = new Calls(DUE);
        for (int p = -14; p <= 40; p++) {
            if (p != 3 && p != 5 && p != 7 && p != 11 && p != 13) {
                x.due(BAD, "powers", p, 2, 0, 0);
            }
        }
        x.due(BAD, "powers", Integer.MIN_VALUE, 2, 0, 0);
        x.due(BAD, "powers", Integer.MAX_VALUE, 2, 0, 0);
    }

    private static void powersRoots() {
        DUE.sentence(18, "g (2 to p - 1)");
        Calls x = new Calls(DUE);
        x.due(2, "powers", 3, 2, 0, 0);
        for (int p : PRIMES) {
            x.beyond(BAD, "powers", 1, 2, p - 1, p, 2, 0, 0);
            if (p > 3) {
                // The last g is told, but its powers are two lines alone.
                x.due(NO, "powers", p, p - 1, 0, 0);
            }
        }
    }

    private static void powersShift() {
        DUE.sentence(18, "s (0 to p - 2): .. g to the (x and s) by p, less 1");
        Calls x = new Calls(DUE);
        x.due(4, "powers", 5, 3, 0, 0);
        x.rowDue(0, 4, 4, 0x0231);
        // By the last s the lines come round: the last of the powers is the first.
        x.due(4, "powers", 5, 3, 3, 0);
        x.rowDue(0, 4, 4, 0x1023);
        x.due(2, "powers", 3, 2, 1, 1);
        x.rowDue(1, 2, 2, 0x10);
        x.due(12, "powers", 13, 2, 11, 2);
        x.rowDue(2, 12, 12, 105636639254601L);
        for (int p : PRIMES) {
            x.beyond(BAD, "powers", 2, 0, p - 2, p, 2, 0, 0);
        }
    }

    private static void powersNo() {
        DUE.sentence(18, "NO, if that is no SQUARE");
        Calls x = new Calls(DUE);
        x.due(1, "row", 0, 2, 3, 0x2F);
        int[][] noRoots = {{5, 4}, {7, 2}, {7, 4}, {7, 6}, {11, 3}, {11, 4}, {11, 5}, {11, 9}, {11, 10},
            {13, 3}, {13, 4}, {13, 5}, {13, 8}, {13, 9}, {13, 10}, {13, 12}};
        for (int[] told : noRoots) {
            x.due(NO, "powers", told[0], told[1], 0, 0);
            x.due(NO, "powers", told[0], told[1], told[0] - 2, 0);
        }
        x.rowDue(0, 2, 3, 0x2F);
    }

    private static void powersBad() {
        DUE.sentence(18, "POWERS become ROW k: how many columns. NO; BAD.");
        Calls x = new Calls(DUE);
        x.beyond(BAD, "powers", 3, 0, 5, 5, 2, 0, 0);
        // BAD ahead of NO.
        x.beyond(BAD, "powers", 3, 0, 5, 5, 4, 0, 0);
        x.beyond(BAD, "powers", 2, 0, 3, 5, 4, 0, 0);
        x.due(4, "powers", 5, 2, 0, 0);
        x.due(4, "powers", 5, 2, 0, 5);
    }

    private static void sumsPrimes() {
        DUE.sentence(19, "SUMS by p and g, h (.. p 5 or more): p - 2 columns and LINES");
        int[] primes = {5, 7, 11, 13};
        int[] root = {2, 3, 2, 2};
        for (int i = 0; i < primes.length; i++) {
            Calls x = new Calls(DUE);
            int p = primes[i];
            x.due(p - 2, "sums", p, root[i], root[i], 5);
            x.due(p - 2, "told", 5, 0);
            x.due(p - 2, "told", 5, 1);
        }
        Calls x = new Calls(DUE);
        for (int p = -14; p <= 40; p++) {
            if (p != 5 && p != 7 && p != 11 && p != 13) {
                x.due(BAD, "sums", p, 2, 2, 0);
            }
        }
        x.due(BAD, "sums", Integer.MIN_VALUE, 2, 2, 0);
        x.due(BAD, "sums", Integer.MAX_VALUE, 2, 2, 0);
    }

    private static void sumsRoots() {
        DUE.sentence(19, "g, h (2 to p - 1 each");
        Calls x = new Calls(DUE);
        x.due(3, "sums", 5, 2, 2, 0);
        x.rowDue(0, 3, 3, 0x102);
        x.due(3, "sums", 5, 3, 2, 0);
        x.rowDue(0, 3, 3, 0x201);
        for (int p : new int[] {5, 7, 11, 13}) {
            x.beyond(BAD, "sums", 1, 2, p - 1, p, 2, 2, 0);
            x.beyond(BAD, "sums", 2, 2, p - 1, p, 2, 2, 0);
            x.due(NO, "sums", p, p - 1, p == 7 ? 3 : 2, 0);
            x.due(NO, "sums", p, p == 7 ? 3 : 2, p - 1, 0);
        }
    }

    private static void sumsNo() {
        DUE.sentence(19, "in column x the one line y .. NO, if that is no SQUARE");
        Calls x = new Calls(DUE);
        x.due(1, "row", 0, 2, 3, 0x2F);
        int[][] noRoots = {{5, 4, 2}, {7, 2, 3}, {7, 6, 3}, {11, 3, 2}, {11, 10, 2}, {13, 3, 2}, {13, 12, 2}};
        for (int[] told : noRoots) {
            x.due(NO, "sums", told[0], told[1], told[2], 0);
            x.due(NO, "sums", told[0], told[2], told[1], 0);
            x.due(NO, "sums", told[0], told[1], told[1], 0);
        }
        x.rowDue(0, 2, 3, 0x2F);
    }

    private static void sumsBad() {
        DUE.sentence(19, "SUMS become ROW k: how many columns. NO; BAD.");
        Calls x = new Calls(DUE);
        x.beyond(BAD, "sums", 3, 0, 5, 5, 2, 2, 0);
        // BAD ahead of NO.
        x.beyond(BAD, "sums", 3, 0, 5, 5, 4, 4, 0);
        x.beyond(BAD, "sums", 2, 2, 4, 5, 4, 2, 0);
        x.due(3, "sums", 5, 2, 2, 0);
        x.due(3, "sums", 5, 2, 2, 5);
    }

    private static void turnSmallest() {
        DUE.sentence(20, "TURNED by t (0 to 7) (one column)");
        Calls x = new Calls(DUE);
        for (int t = 0; t < 8; t++) {
            x.due(1, "turn", 0, t);
            x.rowDue(0, 1, 1, 0);
        }
    }

    private static void turnWidest() {
        DUE.sentence(20, "by each the mark of column x and line y gets to column y and line n - 1 - x");
        // 11 0 1 .. 10 is, the other way about, what one quarter turn makes of it.
        long[] want = {0xB0123456789AL, 0xA9876543210BL, 0x123456789AB0L, 0x0BA987654321L,
            0xA9876543210BL, 0x123456789AB0L, 0x0BA987654321L, 0xB0123456789AL};
        for (int t = 0; t < 8; t++) {
            Calls x = new Calls(DUE);
            x.due(1, "row", 5, 12, 12, want[0]);
            x.due(12, "turn", 5, t);
            x.rowDue(5, 12, 12, want[t]);
        }
    }

    private static void turnRest() {
        DUE.sentence(20, "then t at rest by 4 quarter turns");
        Calls x = new Calls(DUE);
        x.due(1, "row", 0, 4, 4, 0x0231);
        // None by 0, and by 4 as often as none; four single ones come round.
        x.due(4, "turn", 0, 0);
        x.rowDue(0, 4, 4, 0x0231);
        long[] turned = {0x3021, 0x2013, 0x2130, 0x0231};
        for (long marks : turned) {
            x.due(4, "turn", 0, 1);
            x.rowDue(0, 4, 4, marks);
        }
        x.due(4, "turn", 0, 3);
        x.rowDue(0, 4, 4, turned[2]);
        x.due(4, "turn", 0, 2);
        x.rowDue(0, 4, 4, turned[0]);
    }

    private static void turnOtherWay() {
        DUE.sentence(20, "t 4 and more: first columns the other way about");
        long[] want = {0x1320, 0x0312, 0x3102, 0x1203};
        for (int t = 4; t < 8; t++) {
            Calls x = new Calls(DUE);
            x.due(1, "row", 0, 4, 4, 0x0231);
            x.due(4, "turn", 0, t);
            x.rowDue(0, 4, 4, want[t - 4]);
        }
        Calls x = new Calls(DUE);
        x.due(1, "row", 0, 4, 4, 0x0231);
        x.due(4, "turn", 0, 4);
        x.rowDue(0, 4, 4, 0x1320);
        x.due(4, "turn", 0, 4);
        x.rowDue(0, 4, 4, 0x0231);
    }

    private static void turnNo() {
        DUE.sentence(20, "a mark in each, all in unlike lines (a SQUARE; else NO)");
        for (long[] row : NOT_SQUARE) {
            Calls x = new Calls(DUE);
            x.due(1, "row", 0, row[0], row[1], row[2]);
            for (int t = 0; t < 8; t++) {
                x.due(NO, "turn", 0, t);
            }
        }
    }

    private static void turnBad() {
        DUE.sentence(20, "ROW k is TURNED: how many columns. NO; BAD.");
        Calls x = new Calls(DUE);
        x.due(1, "row", 0, 3, 3, 0x012);
        x.due(1, "row", 1, 3, 3, 0x0F1);
        x.beyond(BAD, "turn", 1, 0, 7, 0, 0);
        x.beyond(BAD, "turn", 0, 0, 5, 0, 1);
        // BAD ahead of NO.
        x.beyond(BAD, "turn", 1, 0, 7, 1, 0);
        x.due(1, "turn", 5, 7);
        x.due(3, "turn", 0, 7);
    }

    private static void likeEnds() {
        DUE.sentence(21, "LIKE: how many unlike ones the eight are");
        long[][] rows = {{1, 0x0, 1}, {2, 0x01, 2}, {2, 0x10, 2}, {3, 0x012, 2}, {3, 0x021, 4}, {4, 0x1302, 2},
            {4, 0x0231, 8}, {12, 0x0123456789ABL, 2}, {12, 0x1032547698BAL, 2}, {12, 0xB0123456789AL, 4},
            {12, 0x0123456789BAL, 4}, {12, 0x012345679AB8L, 8}};
        for (long[] row : rows) {
            Calls x = new Calls(DUE);
            x.due(1, "row", 5, row[0], row[0], row[1]);
            x.due(row[2], "like", 5);
            x.rowDue(5, (int) row[0], (int) row[0], row[1]);
        }
    }

    private static void likeNo() {
        DUE.sentence(21, "LIKE. NO");
        for (long[] row : NOT_SQUARE) {
            Calls x = new Calls(DUE);
            x.due(1, "row", 0, row[0], row[1], row[2]);
            x.due(NO, "like", 0);
        }
    }

    private static void likeBad() {
        DUE.sentence(21, "LIKE. NO; BAD.");
        Calls x = new Calls(DUE);
        x.beyond(BAD, "like", 0, 0, 5, 0);
        x.due(1, "like", 0);
        x.due(1, "like", 5);
    }

    private static void cornerPlaces() {
        DUE.sentence(22, "(0: column 0, line 0; 1: the last column, line 0; 2: column 0, the last line; 3: both last)");
        long[] set = {0x0213, 0x2130, 0x3102, 0x1023};
        for (int c = 0; c < 4; c++) {
            Calls x = new Calls(DUE);
            x.due(1, "row", 0, 3, 3, 0x102);
            x.due(4, "corner", 0, c, ON);
            x.rowDue(0, 4, 4, set[c]);
            x.due(3, "corner", 0, c, OFF);
            x.rowDue(0, 3, 3, 0x102);
        }
        Calls x = new Calls(DUE);
        x.beyond(BAD, "corner", 1, 0, 3, 0, 0, ON);
        x.beyond(BAD, "corner", 1, 0, 3, 0, 0, OFF);
    }

    private static void cornerOffSmallest() {
        DUE.sentence(22, "is TAKEN OFF a SQUARE that has its mark there (n 2 and more)");
        for (int c = 0; c < 4; c++) {
            Calls x = new Calls(DUE);
            // One column has its mark in all four corners, and keeps it.
            x.due(NO, "corner", 0, c, OFF);
            x.due(2, "corner", 0, c, ON);
            x.rowDue(0, 2, 2, c == 0 || c == 3 ? 0x01 : 0x10);
            x.due(1, "corner", 0, c, OFF);
            x.rowDue(0, 1, 1, 0);
            x.due(NO, "corner", 0, c, OFF);
            // The other one of the two marks may go as well.
            x.due(2, "corner", 0, c, ON);
            x.due(1, "corner", 0, 3 - c, OFF);
            x.rowDue(0, 1, 1, 0);
        }
    }

    private static void cornerOffNotThere() {
        DUE.sentence(22, "that has its mark there .. NO else");
        // Marks, and which corners have one (1 for corner 0, 2 for 1, 4 for 2, 8 for 3).
        long[][] rows = {{0x0213, 1 + 8}, {0x0231, 1}, {0x2130, 2}, {0x3102, 4}, {0x1023, 8}, {0x3120, 2 + 4},
            {0x1302, 0}};
        for (long[] row : rows) {
            for (int c = 0; c < 4; c++) {
                Calls x = new Calls(DUE);
                x.due(1, "row", 0, 4, 4, row[0]);
                x.due((row[1] >> c & 1) != 0 ? 3 : NO, "corner", 0, c, OFF);
            }
        }
        Calls x = new Calls(DUE);
        x.due(1, "row", 0, 12, 12, 0x1023456789BAL);
        for (int c = 0; c < 4; c++) {
            x.due(NO, "corner", 0, c, OFF);
        }
    }

    private static void cornerOnWidest() {
        DUE.sentence(22, "it is SET ON (n to 11): a column and a line more there with that mark");
        for (int c = 0; c < 4; c++) {
            Calls x = new Calls(DUE);
            for (int n = 2; n <= 12; n++) {
                x.due(n, "corner", 3, c, ON);
            }
            x.rowDue(3, 12, 12, c == 0 || c == 3 ? 0x0123456789ABL : 0xBA9876543210L);
            for (int other = 0; other < 4; other++) {
                x.due(NO, "corner", 3, other, ON);
            }
            x.due(11, "corner", 3, c, OFF);
            x.due(12, "corner", 3, c, ON);
        }
    }

    private static void cornerNo() {
        DUE.sentence(22, "A CORNER c .. is TAKEN OFF a SQUARE .. it is SET ON .. NO else");
        for (long[] row : NOT_SQUARE) {
            Calls x = new Calls(DUE);
            x.due(1, "row", 0, row[0], row[1], row[2]);
            for (int c = 0; c < 4; c++) {
                x.due(NO, "corner", 0, c, OFF);
                x.due(NO, "corner", 0, c, ON);
            }
        }
    }

    private static void cornerBad() {
        DUE.sentence(22, "how many columns. NO; BAD.");
        Calls x = new Calls(DUE);
        x.due(1, "row", 1, 3, 3, 0x0F1);
        for (int on = OFF; on <= ON; on++) {
            x.beyond(BAD, "corner", 0, 0, 5, 0, 0, on);
            // BAD ahead of NO: ROW 0 has no corner to take off, ROW 1 is no SQUARE.
            x.beyond(BAD, "corner", 1, 0, 3, 0, 0, on);
            x.beyond(BAD, "corner", 1, 0, 3, 1, 0, on);
        }
        x.due(2, "corner", 5, 3, ON);
        x.due(2, "corner", 0, 0, ON);
    }
}
