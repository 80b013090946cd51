/** The boundary cases of promises 13 to 17, a test for each of the document's sentences that names one. */
public final class SearchedEdgesTest {
    private static final Due DUE = new Due("SearchedEdgesTest");
    private static final int BAD = LeanMarks.BAD, NO = LeanMarks.NO, NONE = LeanMarks.NONE;
    private static final int COUNT = -1;
    private static final int[] LEAN_SQUARES = {0, 1, 2, 4, 12, 40, 116, 200, 444};

    public static void main(String[] args) {
        squaresOf();
        squaresEnds();
        squaresNone();
        squaresBad();
        holdingAll();
        holdingOne();
        holdingNothing();
        holdingItself();
        holdingTooWide();
        holdingUnlike();
        holdingNone();
        holdingBad();
        nearlyOf();
        nearlyMost();
        nearlyBad();
        rowsOf();
        rowsEnds();
        rowsNone();
        rowsBad();
        longestOf();
        longestBad();
        DUE.end();
    }

    private static void squaresOf() {
        DUE.sentence(13, "LEAN (by KIND 0) SQUARES of n (1 to 8): how many");
        Calls x = new Calls(DUE);
        for (int n = 1; n <= 8; n++) {
            x.due(LEAN_SQUARES[n], "squares", n, COUNT, 0);
        }
        x.beyond(BAD, "squares", 0, 1, 8, 1, COUNT, 0);
        x.beyond(BAD, "squares", 0, 1, 8, 1, 0, 0);
        x.rowDue(0, 1, 1, 0);
    }

    private static void squaresEnds() {
        DUE.sentence(13, "how many (i = -1); else the i-th becomes ROW k (k is the answer then)");
        Calls x = new Calls(DUE);
        x.due(5, "squares", 1, 0, 5);
        x.rowDue(5, 1, 1, 0);
        x.due(0, "squares", 2, 0, 0);
        x.rowDue(0, 2, 2, 0x01);
        x.due(0, "squares", 2, 1, 0);
        x.rowDue(0, 2, 2, 0x10);
        x.due(5, "squares", 3, 3, 5);
        x.rowDue(5, 3, 3, 0x201);
        x.due(3, "squares", 8, 0, 3);
        x.due(1, "quarrels", 3, 0, 2);
        x.due(8, "told", 3, 0);
        x.due(4, "squares", 8, 443, 4);
        x.rowDue(4, 8, 8, 1982931973L);
        // In order by column 0's line, then 1's: the last of n is the first upside down.
        long first = x.call("marks", 3);
        x.due(0x77777777L - first, "marks", 4);
    }

    private static void squaresNone() {
        DUE.sentence(13, "the i-th becomes ROW k .. NONE");
        for (int n = 1; n <= 8; n++) {
            Calls x = new Calls(DUE);
            x.due(2, "squares", n, LEAN_SQUARES[n] - 1, 2);
            x.due(NONE, "squares", n, LEAN_SQUARES[n], 2);
            x.due(NONE, "squares", n, LEAN_SQUARES[n] + 1, 3);
            x.due(NONE, "squares", n, Integer.MAX_VALUE, 2);
            x.due(n, "told", 2, 0);
        }
    }

    private static void squaresBad() {
        DUE.sentence(13, "LEAN SQUARES: how many (i = -1) .. NONE; BAD.");
        Calls x = new Calls(DUE);
        x.call("squares", 5, 3, 0);
        x.due(BAD, "squares", 4, -2, 0);
        x.due(BAD, "squares", 4, Integer.MIN_VALUE, 0);
        x.beyond(BAD, "squares", 2, 0, 5, 4, 0, 0);
        x.beyond(BAD, "squares", 2, 0, 5, 4, COUNT, 0);
        x.beyond(BAD, "squares", 2, 0, 5, 4, 12, 0);
    }

    private static long none(int n) {
        return (1L << 4 * n) - 1;
    }

    private static void holdingAll() {
        DUE.sentence(14, "LEAN SQUARES that have all marks it has (it has none)");
        for (int n = 1; n <= 8; n++) {
            Calls x = new Calls(DUE);
            x.due(1, "row", 0, n, n, none(n));
            x.due(LEAN_SQUARES[n], "holding", 0, COUNT, 1);
            x.due(1, "holding", 0, LEAN_SQUARES[n] - 1, 1);
            x.due(2, "squares", n, LEAN_SQUARES[n] - 1, 2);
            x.due(x.call("marks", 2), "marks", 1);
            x.due(NONE, "holding", 0, LEAN_SQUARES[n], 1);
        }
    }

    private static void holdingOne() {
        DUE.sentence(14, "LEAN SQUARES that have all marks it has (it has all)");
        for (int n = 1; n <= 8; n++) {
            Calls x = new Calls(DUE);
            x.call("squares", n, LEAN_SQUARES[n] / 2, 0);
            x.due(1, "holding", 0, COUNT, 0);
            x.due(5, "holding", 0, 0, 5);
            x.due(x.call("marks", 0), "marks", 5);
            x.due(NONE, "holding", 0, 1, 5);
        }
    }

    private static void holdingNothing() {
        DUE.sentence(14, "LEAN SQUARES that have all marks it has: how many (no SQUARE has them)");
        long[][] rows = {{2, 0x00}, {3, 0x012}, {3, 0xF11}, {8, 0x01234567L}, {8, 0x7FFFFFF7L}, {8, 0x012FFFFFL}};
        for (long[] row : rows) {
            Calls x = new Calls(DUE);
            x.due(1, "row", 0, row[0], row[0], row[1]);
            x.due(0, "holding", 0, COUNT, 1);
            x.due(NONE, "holding", 0, 0, 1);
            x.due(NONE, "holding", 0, 0, 0);
            x.rowDue(0, (int) row[0], (int) row[0], row[1]);
        }
    }

    private static void holdingItself() {
        DUE.sentence(14, "else the i-th becomes ROW o (o is the answer then)");
        Calls x = new Calls(DUE);
        x.due(1, "row", 5, 3, 3, 0xFF1);
        x.due(2, "holding", 5, COUNT, 5);
        x.rowDue(5, 3, 3, 0xFF1);
        x.due(0, "holding", 5, 0, 0);
        x.rowDue(0, 3, 3, 0x021);
        x.due(5, "holding", 5, 1, 5);
        x.rowDue(5, 3, 3, 0x201);
        x.due(1, "holding", 5, COUNT, 5);
        x.due(0, "holding", 0, 0, 0);
        x.rowDue(0, 3, 3, 0x021);
    }

    private static void holdingTooWide() {
        DUE.sentence(14, "NO: it is not so (n above 8");
        Calls x = new Calls(DUE);
        x.due(1, "row", 0, 8, 8, none(8));
        x.due(444, "holding", 0, COUNT, 1);
        for (int n = 9; n <= 12; n++) {
            x.call("row", 0, n, n, none(n));
            x.due(NO, "holding", 0, COUNT, 1);
            x.due(NO, "holding", 0, 0, 1);
            x.due(NO, "holding", 0, Integer.MAX_VALUE, 0);
        }
    }

    private static void holdingUnlike() {
        DUE.sentence(14, "NO: it is not so (.. LINES unlike columns)");
        for (int n = 1; n <= 12; n++) {
            for (int m = 1; m <= 12; m++) {
                Calls x = new Calls(DUE);
                x.call("row", 0, n, m, none(n));
                if (n != m) {
                    x.due(NO, "holding", 0, COUNT, 1);
                    x.due(NO, "holding", 0, 0, 1);
                } else if (n <= 8) {
                    x.due(LEAN_SQUARES[n], "holding", 0, COUNT, 1);
                }
            }
        }
    }

    private static void holdingNone() {
        DUE.sentence(14, "NONE; NO: it is not so");
        Calls x = new Calls(DUE);
        x.due(1, "row", 0, 4, 4, 0x0FFF);
        long all = x.call("holding", 0, COUNT, 1);
        x.due(1, "holding", 0, all - 1, 1);
        x.due(0, "told", 1, 2);
        x.due(NONE, "holding", 0, all, 1);
        x.due(NONE, "holding", 0, all, 2);
        x.due(NONE, "holding", 0, Integer.MAX_VALUE, 1);
    }

    private static void holdingBad() {
        DUE.sentence(14, "HOLDING the marks of ROW k .. BAD.");
        Calls x = new Calls(DUE);
        x.due(1, "row", 1, 9, 9, none(9));
        x.due(1, "row", 2, 2, 2, 0x00);
        // ROW 0 holds, ROW 1 is NO, ROW 2 is NONE: BAD comes ahead.
        for (int k = 0; k < 3; k++) {
            x.due(BAD, "holding", k, -2, 3);
            x.due(BAD, "holding", k, Integer.MIN_VALUE, 3);
            x.beyond(BAD, "holding", 2, 0, 5, k, 0, 3);
            x.beyond(BAD, "holding", 2, 0, 5, k, COUNT, 3);
        }
        x.beyond(BAD, "holding", 0, 0, 5, 0, 0, 3);
        x.beyond(BAD, "holding", 0, 0, 5, 0, COUNT, 3);
    }

    private static void nearlyOf() {
        DUE.sentence(15, "NEARLY: SQUARES of n (1 to 6) with just q QUARRELS (KIND 0): how many");
        Calls x = new Calls(DUE);
        for (int n = 1; n <= 6; n++) {
            x.due(LEAN_SQUARES[n], "nearly", n, 0);
        }
        x.beyond(BAD, "nearly", 0, 1, 6, 1, 0);
    }

    private static void nearlyMost() {
        DUE.sentence(15, "with just q QUARRELS");
        int squares = 1;
        for (int n = 1; n <= 6; n++) {
            Calls x = new Calls(DUE);
            squares *= n;
            int most = n * (n - 1) * (n - 2) / 6;
            int all = 0;
            for (int q = 0; q <= most; q++) {
                all += x.call("nearly", n, q);
            }
            DUE.asked("all SQUARES of " + n, all, squares);
            if (n > 2) {
                // The two slopes have most, and none has just one less.
                x.due(2, "nearly", n, most);
                x.due(n == 3 ? 4 : 0, "nearly", n, most - 1);
            }
            x.due(0, "nearly", n, most + 1);
            x.due(0, "nearly", n, Integer.MAX_VALUE);
        }
    }

    private static void nearlyBad() {
        DUE.sentence(15, "NEARLY. BAD (q below 0).");
        Calls x = new Calls(DUE);
        for (int n = 1; n <= 6; n++) {
            x.due(LEAN_SQUARES[n], "nearly", n, 0);
            x.due(BAD, "nearly", n, -1);
            x.due(BAD, "nearly", n, Integer.MIN_VALUE);
        }
    }

    private static void rowsOf() {
        DUE.sentence(16, "LEAN ROWS of n columns over m LINES (n 1 to 8, m 1 to 6) by a KIND");
        Calls x = new Calls(DUE);
        for (int kind = 0; kind < 2; kind++) {
            for (int m = 1; m <= 6; m++) {
                x.due(m, "rows", 1, m, kind, COUNT, 0);
                x.due(m * m, "rows", 2, m, kind, COUNT, 0);
            }
            x.beyond(BAD, "rows", 0, 1, 8, 1, 1, kind, COUNT, 0);
            x.beyond(BAD, "rows", 1, 1, 6, 1, 1, kind, COUNT, 0);
        }
        x.due(14380, "rows", 8, 6, 0, COUNT, 0);
        x.due(0, "rows", 8, 6, 1, COUNT, 0);
        // A search among SQUARES leaves nothing behind that a search among ROWS could heed.
        x.due(2, "squares", 2, COUNT, 0);
        x.due(4, "rows", 2, 2, 0, COUNT, 0);
        x.due(4, "longest", 2, 0);
        x.due(2, "squares", 2, COUNT, 0);
        x.due(4, "longest", 2, 0);
        x.rowDue(0, 1, 1, 0);
    }

    private static void rowsEnds() {
        DUE.sentence(16, "how many (i = -1); else the i-th becomes ROW k (k is the answer then)");
        for (int kind = 0; kind < 2; kind++) {
            Calls x = new Calls(DUE);
            x.due(5, "rows", 1, 6, kind, 0, 5);
            x.rowDue(5, 1, 6, 0);
            x.due(0, "rows", 1, 6, kind, 5, 0);
            x.rowDue(0, 1, 6, 5);
            x.due(0, "rows", 2, 6, kind, 35, 0);
            x.rowDue(0, 2, 6, 0x55);
            x.due(3, "rows", 2, 1, kind, 0, 3);
            x.rowDue(3, 2, 1, 0x00);
            x.due(NONE, "rows", 2, 1, kind, 1, 3);
        }
        Calls x = new Calls(DUE);
        x.due(0, "rows", 8, 6, 0, 0, 0);
        x.due(1, "rows", 8, 6, 0, 14379, 1);
        // In order: the last is the first upside down.
        long first = x.call("marks", 0);
        x.due(1, "quarrels", 0, 0, 2);
        x.rowDue(1, 8, 6, 0x55555555L - first);
    }

    private static void rowsNone() {
        DUE.sentence(16, "the i-th becomes ROW k .. NONE");
        Calls x = new Calls(DUE);
        x.due(2, "rows", 5, 3, 0, 27, 2);
        x.due(NONE, "rows", 5, 3, 0, 28, 2);
        x.due(NONE, "rows", 5, 3, 0, Integer.MAX_VALUE, 3);
        x.due(NONE, "rows", 8, 6, 0, 14380, 2);
        // By KIND 1 there is not even a first one.
        x.due(0, "rows", 5, 3, 1, COUNT, 2);
        x.due(NONE, "rows", 5, 3, 1, 0, 2);
        x.due(NONE, "rows", 3, 1, 0, 0, 2);
        x.due(NONE, "rows", 8, 1, 1, 0, 2);
        x.due(5, "told", 2, 0);
    }

    private static void rowsBad() {
        DUE.sentence(16, "LEAN ROWS: how many .. NONE; BAD.");
        Calls x = new Calls(DUE);
        x.call("rows", 4, 4, 0, 7, 0);
        x.beyond(BAD, "rows", 2, 0, 1, 3, 3, 0, COUNT, 0);
        x.beyond(BAD, "rows", 2, 0, 1, 3, 3, 0, 0, 0);
        x.due(BAD, "rows", 3, 3, 0, -2, 0);
        x.due(BAD, "rows", 3, 3, 0, Integer.MIN_VALUE, 0);
        x.beyond(BAD, "rows", 4, 0, 5, 3, 3, 0, 0, 0);
        x.beyond(BAD, "rows", 4, 0, 5, 3, 3, 0, COUNT, 0);
        // BAD ahead of NONE.
        x.beyond(BAD, "rows", 4, 0, 5, 3, 1, 0, 0, 0);
        x.beyond(BAD, "rows", 0, 1, 8, 3, 3, 0, 0, 0);
        x.beyond(BAD, "rows", 1, 1, 6, 3, 3, 0, 0, 0);
    }

    private static void longestOf() {
        DUE.sentence(17, "LONGEST over m LINES (1 to 4) by a KIND: the greatest n (to 12) for which there are any");
        for (int m = 1; m <= 4; m++) {
            Calls x = new Calls(DUE);
            x.due(2 * m, "longest", m, 0);
            x.due(m + 1, "longest", m, 1);
            for (int kind = 0; kind < 2; kind++) {
                int n = kind == 0 ? 2 * m : m + 1;
                x.due(0, "rows", n, m, kind, 0, 0);
                if (n < 8) {
                    x.due(NONE, "rows", n + 1, m, kind, 0, 0);
                }
            }
        }
    }

    private static void longestBad() {
        DUE.sentence(17, "LONGEST. BAD.");
        Calls x = new Calls(DUE);
        for (int kind = 0; kind < 2; kind++) {
            x.beyond(BAD, "longest", 0, 1, 4, 1, kind);
        }
        x.beyond(BAD, "longest", 1, 0, 1, 1, 0);
        x.beyond(BAD, "longest", 1, 0, 1, 4, 0);
    }
}
