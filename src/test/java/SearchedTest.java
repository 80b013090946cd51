import java.util.ArrayList;
import java.util.List;

/** Promises 13 to 17: what is searched, against plain lists of all SQUARES and ROWS. */
public final class SearchedTest {
    private static final Due DUE = new Due("SearchedTest");
    private static final int[] NO_ROW = {-1, 6, Integer.MIN_VALUE, Integer.MAX_VALUE};

    public static void main(String[] args) {
        squares();
        squaresRefused();
        holding();
        holdingRefused();
        nearly();
        rows();
        rowsRefused();
        longest();
        DUE.end();
    }

    private static void squares() {
        int[] known = {1, 2, 4, 12, 40, 116, 200, 444};
        LeanMarks x = new LeanMarks();
        for (int n = 1; n <= 8; n++) {
            List<Long> all = PlainSearch.leanSquares(n);
            DUE.is(13, "squares(" + n + ", -1, 0)", x.squares(n, -1, 0), known[n - 1]);
            DUE.is(13, "plain squares of " + n, all.size(), known[n - 1]);
        }
        DUE.is(13, "counting makes no ROW", x.told(0, 0), 1);
        for (int n = 1; n <= 8; n++) {
            List<Long> all = PlainSearch.leanSquares(n);
            for (int i = 0; i < all.size(); i += n < 6 ? 1 : 37) {
                madeSquare(n, i, all.get(i));
            }
            int last = all.size() - 1;
            madeSquare(n, last, all.get(last));
            DUE.is(13, "behind the last of " + n, x.squares(n, last + 1, 2), LeanMarks.NONE);
            DUE.is(13, "far behind", x.squares(n, Integer.MAX_VALUE, 2), LeanMarks.NONE);
        }
        DUE.is(13, "NONE changes nothing", x.told(2, 0), 1);
    }

    private static void madeSquare(int n, int i, long want) {
        LeanMarks x = new LeanMarks();
        int k = i % 6;
        DUE.is(13, "squares(" + n + ", " + i + ", " + k + ")", x.squares(n, i, k), k);
        DUE.is(13, "its marks", x.marks(k), want);
        DUE.is(13, "its columns", x.told(k, 0), n);
        DUE.is(13, "its lines", x.told(k, 1), n);
    }

    private static void squaresRefused() {
        LeanMarks x = new LeanMarks();
        for (int bad : new int[] {0, -1, 9, Integer.MIN_VALUE, Integer.MAX_VALUE}) {
            DUE.is(13, "n = " + bad, x.squares(bad, -1, 0), LeanMarks.BAD);
        }
        DUE.is(13, "i = -2", x.squares(4, -2, 0), LeanMarks.BAD);
        DUE.is(13, "i the lowest", x.squares(4, Integer.MIN_VALUE, 0), LeanMarks.BAD);
        for (int bad : NO_ROW) {
            DUE.is(13, "k = " + bad, x.squares(4, 0, bad), LeanMarks.BAD);
            DUE.is(13, "k = " + bad + ", counting", x.squares(4, -1, bad), LeanMarks.BAD);
            DUE.is(13, "BAD ahead of NONE", x.squares(4, 99, bad), LeanMarks.BAD);
        }
        DUE.is(13, "nothing changed", x.count(3), 6);
    }

    private static void holdingDue(int n, long held) {
        LeanMarks x = new LeanMarks();
        List<Long> all = new ArrayList<>();
        for (long square : PlainSearch.leanSquares(n)) {
            if (PlainSearch.holds(square, held, n)) {
                all.add(square);
            }
        }
        String of = "holding " + Long.toHexString(held) + ": ";
        x.row(0, n, n, held);
        DUE.is(14, of + "how many", x.holding(0, -1, 1), all.size());
        for (int i = 0; i < all.size(); i += 1 + all.size() / 20) {
            DUE.is(14, of + i, x.holding(0, i, 5), 5);
            DUE.is(14, of + i + ", marks", x.marks(5), all.get(i));
        }
        long before = x.marks(5);
        DUE.is(14, of + "behind the last", x.holding(0, all.size(), 5), LeanMarks.NONE);
        DUE.is(14, of + "nothing changed", x.marks(5), before);
        DUE.is(14, of + "the ROW stays", x.marks(0), held);
    }

    private static void holding() {
        holdingDue(1, 0);
        holdingDue(1, 0xF);
        holdingDue(4, 0xFFFF);
        holdingDue(4, 0x0132);
        holdingDue(4, 0x0123);
        holdingDue(4, 0x0F0F);
        holdingDue(5, 0xFF2FF);
        holdingDue(6, 0xFFFFF3);
        holdingDue(8, 0xFFFFFFFFL);
        holdingDue(8, 0x0FFFFFFFL);
        holdingDue(8, 0x7FFF0FFFL);
        holdingDue(8, 0x7631F5FFL);
        LeanMarks x = new LeanMarks();
        x.row(0, 3, 3, 0x2FF);
        DUE.is(14, "into itself", x.holding(0, 0, 0), 0);
        DUE.is(14, "its marks", x.marks(0), 0x201);
        DUE.is(14, "two marks in a line", x.row(1, 3, 3, 0x0F0), 1);
        DUE.is(14, "no SQUARE has them", x.holding(1, -1, 2), 0);
        DUE.is(14, "no SQUARE has them", x.holding(1, 0, 2), LeanMarks.NONE);
    }

    private static void holdingRefused() {
        LeanMarks x = new LeanMarks();
        x.row(0, 9, 9, 0xFFFFFFFFFL);
        x.row(1, 4, 5, 0xFFFF);
        x.row(2, 5, 4, 0xFFFFF);
        for (int i = -1; i < 2; i++) {
            for (int k = 0; k < 3; k++) {
                DUE.is(14, "NO: holding(" + k + ", " + i + ", 3)", x.holding(k, i, 3), LeanMarks.NO);
            }
        }
        for (int k = 0; k < 4; k++) {
            DUE.is(14, "i = -2", x.holding(k, -2, 3), LeanMarks.BAD);
            DUE.is(14, "i the lowest", x.holding(k, Integer.MIN_VALUE, 3), LeanMarks.BAD);
            for (int bad : NO_ROW) {
                DUE.is(14, "k = " + bad, x.holding(bad, k, 3), LeanMarks.BAD);
                DUE.is(14, "o = " + bad, x.holding(k, 0, bad), LeanMarks.BAD);
                DUE.is(14, "o = " + bad + ", counting", x.holding(k, -1, bad), LeanMarks.BAD);
            }
        }
        DUE.is(14, "nothing changed", x.marks(3), 0);
    }

    private static void nearly() {
        LeanMarks x = new LeanMarks();
        for (int n = 1; n <= 6; n++) {
            for (int q = 0; q <= 36; q++) {
                int want = PlainSearch.squaresWith(n, q);
                DUE.is(15, "nearly(" + n + ", " + q + ")", x.nearly(n, q), want);
            }
            DUE.is(15, "more than any has", x.nearly(n, Integer.MAX_VALUE), 0);
            DUE.is(15, "q below 0", x.nearly(n, -1), LeanMarks.BAD);
            DUE.is(15, "q the lowest", x.nearly(n, Integer.MIN_VALUE), LeanMarks.BAD);
        }
        DUE.is(15, "the two slopes of 6", x.nearly(6, 20), 2);
        for (int bad : new int[] {0, -1, 7, Integer.MIN_VALUE, Integer.MAX_VALUE}) {
            DUE.is(15, "n = " + bad, x.nearly(bad, 0), LeanMarks.BAD);
        }
    }

    private static void rows() {
        LeanMarks x = new LeanMarks();
        for (int kind = 0; kind <= 1; kind++) {
            for (int n = 1; n <= 8; n++) {
                for (int m = 1; m <= 6; m++) {
                    rowsDue(x, n, m, kind);
                }
            }
        }
    }

    private static void rowsDue(LeanMarks x, int n, int m, int kind) {
        List<Long> all = PlainSearch.leanRows(n, m, kind);
        String of = "rows(" + n + ", " + m + ", " + kind + ", ";
        DUE.is(16, of + "-1, 0)", x.rows(n, m, kind, -1, 0), all.size());
        for (int i = 0; i < all.size(); i += 1 + all.size() / 9) {
            DUE.is(16, of + i + ", 4)", x.rows(n, m, kind, i, 4), 4);
            DUE.is(16, of + i + ", 4): marks", x.marks(4), all.get(i));
            DUE.is(16, of + i + ", 4): columns", x.told(4, 0), n);
            DUE.is(16, of + i + ", 4): lines", x.told(4, 1), m);
        }
        if (!all.isEmpty()) {
            int last = all.size() - 1;
            DUE.is(16, of + last + ", 4)", x.rows(n, m, kind, last, 4), 4);
            DUE.is(16, of + last + ", 4): marks", x.marks(4), all.get(last));
        }
        long before = x.marks(4);
        DUE.is(16, of + all.size() + ", 4)", x.rows(n, m, kind, all.size(), 4), LeanMarks.NONE);
        DUE.is(16, of + "far behind)", x.rows(n, m, kind, Integer.MAX_VALUE, 4), LeanMarks.NONE);
        DUE.is(16, "nothing changed", x.marks(4), before);
    }

    private static void rowsRefused() {
        LeanMarks x = new LeanMarks();
        for (int bad : new int[] {0, -1, 9, Integer.MIN_VALUE, Integer.MAX_VALUE}) {
            DUE.is(16, "n = " + bad, x.rows(bad, 3, 0, -1, 0), LeanMarks.BAD);
        }
        for (int bad : new int[] {0, -1, 7, Integer.MIN_VALUE, Integer.MAX_VALUE}) {
            DUE.is(16, "m = " + bad, x.rows(3, bad, 0, -1, 0), LeanMarks.BAD);
        }
        for (int bad : new int[] {-1, 2, Integer.MIN_VALUE, Integer.MAX_VALUE}) {
            DUE.is(16, "kind = " + bad, x.rows(3, 3, bad, -1, 0), LeanMarks.BAD);
            DUE.is(17, "kind = " + bad, x.longest(3, bad), LeanMarks.BAD);
        }
        DUE.is(16, "i = -2", x.rows(3, 3, 0, -2, 0), LeanMarks.BAD);
        DUE.is(16, "i the lowest", x.rows(3, 3, 0, Integer.MIN_VALUE, 0), LeanMarks.BAD);
        for (int bad : NO_ROW) {
            DUE.is(16, "k = " + bad, x.rows(3, 3, 0, 0, bad), LeanMarks.BAD);
            DUE.is(16, "k = " + bad + ", counting", x.rows(3, 3, 0, -1, bad), LeanMarks.BAD);
            DUE.is(16, "BAD ahead of NONE", x.rows(3, 1, 0, 0, bad), LeanMarks.BAD);
        }
        DUE.is(16, "nothing changed", x.count(3), 6);
    }

    private static void longest() {
        LeanMarks x = new LeanMarks();
        for (int m = 1; m <= 4; m++) {
            for (int kind = 0; kind <= 1; kind++) {
                DUE.is(17, "longest(" + m + ", " + kind + ")", x.longest(m, kind), PlainSearch.longest(m, kind));
            }
        }
        for (int bad : new int[] {0, -1, 5, Integer.MIN_VALUE, Integer.MAX_VALUE}) {
            DUE.is(17, "m = " + bad, x.longest(bad, 0), LeanMarks.BAD);
        }
    }
}
