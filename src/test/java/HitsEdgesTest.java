/** The boundary cases of promises 11 and 12, a test for each of the document's sentences that names one. */
public final class HitsEdgesTest {
    private static final Due DUE = new Due("HitsEdgesTest");
    private static final int BAD = LeanMarks.BAD, FAR_BAD = -100;
    private static final long NOTHING = 0xFFFFFFFFFFFFL;
    private static final int PLAIN = 0, ROUND = 1;

    public static void main(String[] args) {
        hitsFarthest();
        hitsBeyondTheRow();
        hitsMarksAlone();
        roundByColumns();
        roundByLines();
        roundTwelve();
        roundColumnsOfB();
        roundLinesOfB();
        hitsBad();
        mostCorners();
        mostNotOnItself();
        mostOnAnother();
        mostFirst();
        mostNothing();
        allMoves();
        allButThatOne();
        mostBad();
        DUE.end();
    }

    private static Calls two(int n, int m, long a, long b) {
        Calls x = new Calls(DUE);
        x.due(1, "row", 0, n, m, a);
        x.due(1, "row", 1, n, m, b);
        return x;
    }

    private static void mostDue(Calls x, int a, int b, int... want) {
        for (int what = 0; what < want.length; what++) {
            x.due(want[what], "most", a, b, what);
        }
    }

    private static void hitsFarthest() {
        DUE.sentence(11, "moved by dx columns and dy lines (-12 to 12 each)");
        // The mark of the first corner meets that of the last, 11 columns and 11 lines away.
        Calls x = two(12, 12, 0x0FFFFFFFFFFFL, 0xFFFFFFFFFFFBL);
        x.due(1, "hits", 0, 1, 11, 11, PLAIN);
        x.due(1, "hits", 1, 0, -11, -11, PLAIN);
        x.due(0, "hits", 0, 1, 12, 11, PLAIN);
        x.due(0, "hits", 0, 1, 11, 12, PLAIN);
        x.due(0, "hits", 1, 0, -12, -11, PLAIN);
        x.due(0, "hits", 1, 0, -11, -12, PLAIN);
        for (int round = PLAIN; round <= ROUND; round++) {
            x.beyond(BAD, "hits", 2, -12, 12, 0, 0, 0, 0, round);
            x.beyond(BAD, "hits", 3, -12, 12, 0, 0, 0, 0, round);
        }
    }

    private static void hitsBeyondTheRow() {
        DUE.sentence(11, "marks (x, y) of a for which (x + dx, y + dy) is a mark of b");
        Calls x = two(3, 3, 0x012, 0x012);
        // Out at the right, the left, above and below: a plain move does not come round.
        x.due(2, "hits", 0, 1, 1, 1, PLAIN);
        x.due(2, "hits", 0, 1, -1, -1, PLAIN);
        x.due(1, "hits", 0, 1, 2, 2, PLAIN);
        x.due(0, "hits", 0, 1, 3, 3, PLAIN);
        x.due(0, "hits", 0, 1, 1, -2, PLAIN);
        x.due(0, "hits", 0, 1, -2, 1, PLAIN);
        // What b had behind its last column, before it became narrower, is no mark.
        x.due(3, "row", 1, 2, 3, 0x01);
        x.due(2, "hits", 0, 1, 0, 0, PLAIN);
    }

    private static void hitsMarksAlone() {
        DUE.sentence(11, "HITS of ROW a laid on ROW b (a column without a mark has none)");
        Calls x = two(12, 12, NOTHING, 0xBBBBBBBBBBBBL);
        for (int round = PLAIN; round <= ROUND; round++) {
            x.due(0, "hits", 0, 0, 0, 0, round);
            x.due(0, "hits", 0, 1, 0, 0, round);
            x.due(0, "hits", 1, 0, 0, 0, round);
            // Line 11 and 4 more is 15, as none is told.
            x.due(0, "hits", 1, 0, 0, 4, round);
            // 15 and 4 less would be 11.
            x.due(0, "hits", 0, 1, 0, -4, round);
            x.due(12, "hits", 1, 1, 0, 0, round);
        }
    }

    private static void roundByColumns() {
        DUE.sentence(11, "ROUND: the same by x + dx modulo the columns of b");
        for (int n = 1; n <= 12; n++) {
            long last = (1L << 4 * n) - 16;
            long first = (1L << 4 * (n - 1)) - 1;
            Calls x = two(n, 1, last, n == 1 ? 0 : first);
            x.due(1, "hits", 0, 1, 1, 0, ROUND);
            x.due(1, "hits", 1, 0, -1, 0, ROUND);
            x.due(1, "hits", 0, 1, 1 - n, 0, ROUND);
            x.due(1, "hits", 0, 0, n, 0, ROUND);
            x.due(1, "hits", 0, 0, -n, 0, ROUND);
            x.due(n == 1 ? 1 : 0, "hits", 0, 1, 0, 0, ROUND);
            // It is by b's columns, whether a has fewer (one) or more (twelve).
            x.due(1, "row", 2, 1, 1, 0);
            x.due(1, "row", 3, 12, 1, 0);
            x.due(1, "hits", 2, 0, -1, 0, ROUND);
            x.due(1, "hits", 2, 0, n - 1, 0, ROUND);
            x.due(1, "hits", 3, 0, 12, 0, ROUND);
            x.due(1, "hits", 3, 1, -12, 0, ROUND);
        }
    }

    private static void roundByLines() {
        DUE.sentence(11, "and y + dy modulo its LINES");
        for (int m = 1; m <= 12; m++) {
            Calls x = new Calls(DUE);
            x.due(1, "row", 0, 1, m, m - 1);
            x.due(1, "row", 1, 1, m, 0);
            x.due(1, "hits", 0, 1, 0, 1, ROUND);
            x.due(1, "hits", 1, 0, 0, -1, ROUND);
            x.due(1, "hits", 0, 1, 0, 1 - m, ROUND);
            x.due(1, "hits", 0, 0, 0, m, ROUND);
            x.due(1, "hits", 0, 0, 0, -m, ROUND);
            x.due(m == 1 ? 1 : 0, "hits", 0, 1, 0, 0, ROUND);
            // It is by b's LINES, whether a has fewer or more.
            x.due(1, "row", 2, 1, 1, 0);
            x.due(1, "row", 3, 1, 12, m - 1);
            x.due(1, "hits", 2, 0, 0, -1, ROUND);
            x.due(1, "hits", 3, 1, 0, 1, ROUND);
        }
    }

    private static void roundTwelve() {
        DUE.sentence(11, "(-12 to 12 each) .. ROUND: .. modulo the columns of b and y + dy modulo its LINES");
        for (int n = 1; n <= 12; n++) {
            for (int m = 1; m <= 12; m++) {
                Calls x = new Calls(DUE);
                long first = (1L << 4 * (n - 1)) - 1;
                x.due(1, "row", 0, n, m, first);
                x.due(12 % n == 0 && 12 % m == 0 ? 1 : 0, "hits", 0, 0, 12, 12, ROUND);
                x.due(12 % n == 0 && 12 % m == 0 ? 1 : 0, "hits", 0, 0, -12, -12, ROUND);
            }
        }
    }

    private static void roundColumnsOfB() {
        DUE.sentence(11, "by those marks of a whose column .. b has");
        for (int n = 1; n <= 11; n++) {
            Calls x = new Calls(DUE);
            x.due(1, "row", 0, 12, 1, 0);
            x.due(1, "row", 1, n, 1, 0);
            // Columns n to 11 of a would each come round to a mark of b.
            x.due(n, "hits", 0, 1, 0, 0, ROUND);
            x.due(n, "hits", 0, 1, -12, 0, ROUND);
            x.due(n, "hits", 0, 1, 12, 0, ROUND);
            // The other way about b has all columns.
            x.due(n, "hits", 1, 0, 12, 0, ROUND);
            x.due(n, "hits", 1, 0, -1, 0, ROUND);
        }
    }

    private static void roundLinesOfB() {
        DUE.sentence(11, "by those marks of a whose .. line b has");
        for (int m = 1; m <= 11; m++) {
            Calls x = new Calls(DUE);
            x.due(1, "row", 0, 2, 12, (m - 1) * 16L + m);
            x.due(1, "row", 1, 2, m, (m - 1) * 16L);
            // Line m - 1 b has; line m would come round to line 0.
            x.due(1, "hits", 0, 1, 0, 0, ROUND);
            x.due(1, "hits", 0, 1, 0, m, ROUND);
        }
    }

    private static void hitsBad() {
        DUE.sentence(11, "HITS, ROUND or not. BAD.");
        Calls x = new Calls(DUE);
        for (int round = PLAIN; round <= ROUND; round++) {
            x.due(1, "hits", 0, 5, 0, 0, round);
            x.due(1, "hits", 5, 0, 0, 0, round);
            x.beyond(BAD, "hits", 0, 0, 5, 0, 0, 0, 0, round);
            x.beyond(BAD, "hits", 1, 0, 5, 0, 0, 0, 0, round);
        }
    }

    private static void mostCorners() {
        DUE.sentence(12, "MOST of a on b: the greatest HITS of all moves");
        Calls x = two(12, 12, 0x0FFFFFFFFFFFL, 0xFFFFFFFFFFFBL);
        mostDue(x, 0, 1, 1, 11, 11, 1);
        mostDue(x, 1, 0, 1, -11, -11, 1);
        Calls y = two(12, 12, 0xBFFFFFFFFFFFL, 0xFFFFFFFFFFF0L);
        mostDue(y, 0, 1, 1, 11, -11, 1);
        mostDue(y, 1, 0, 1, -11, 11, 1);
        // One mark more at the last move of all outweighs every earlier one.
        Calls z = two(12, 12, 0x00FFFFFFFFFFL, 0x0FFFFFFFFFBBL);
        mostDue(z, 0, 1, 2, 10, 11, 4 + 4);
    }

    private static void mostNotOnItself() {
        DUE.sentence(12, "but of dx 0, dy 0 if a is b");
        Calls x = two(2, 2, 0x01, 0x01);
        mostDue(x, 0, 0, 1, -1, -1, 2);
        mostDue(x, 5, 5, 0, -12, -12, 0);
        // dx 0 or dy 0 alone is no reason to leave a move out.
        x.due(2, "row", 0, 2, 2, 0x00);
        mostDue(x, 0, 0, 1, -1, 0, 2);
    }

    private static void mostOnAnother() {
        DUE.sentence(12, "if a is b (another ROW with the same marks is not)");
        Calls x = two(2, 2, 0x01, 0x01);
        mostDue(x, 0, 1, 2, 0, 0, 6);
        mostDue(x, 1, 0, 2, 0, 0, 6);
        mostDue(x, 4, 5, 1, 0, 0, 1);
    }

    private static void mostFirst() {
        DUE.sentence(12, "the first move by dx, then dy");
        Calls x = two(2, 12, 0xB0, 0x0B);
        // (1, 0) and (-1, 0) by one mark each, (0, 11) and (0, -11), too.
        mostDue(x, 0, 1, 1, -1, 0, 4);
        x.due(2, "row", 0, 1, 12, 0x5);
        x.due(2, "row", 1, 2, 12, 0x92);
        mostDue(x, 0, 1, 1, 0, 4, 2);
        mostDue(x, 1, 0, 1, -1, 3, 2);
        // Two marks of one column's distance: of one dx the lower dy.
        x.due(1, "row", 0, 2, 12, 0x09);
        x.due(2, "row", 1, 3, 12, 0xF5F);
        mostDue(x, 0, 1, 1, 0, -4, 2);
        x.due(2, "row", 0, 2, 12, 0x99);
        x.due(3, "row", 1, 3, 12, 0xB66);
        // dx -1: line 9 on 11; dx 0: on 11 and 6 by unlike dy; dx 1: both on 6.
        mostDue(x, 0, 1, 2, 1, -3, 1 + 1 + 1 + 4 + 1);
    }

    private static void mostNothing() {
        DUE.sentence(12, "the greatest HITS of all moves (none meet)");
        Calls x = two(12, 12, NOTHING, 0xBBBBBBBBBBBBL);
        mostDue(x, 0, 0, 0, -12, -12, 0);
        mostDue(x, 0, 1, 0, -12, -12, 0);
        mostDue(x, 1, 0, 0, -12, -12, 0);
    }

    private static void allMoves() {
        DUE.sentence(12, "ALL: the sum of HITS times themselves of all moves");
        for (int n = 1; n <= 12; n++) {
            Calls x = two(n, 1, 0, 0);
            // n marks in a line meet n - |dx| times at each dx.
            int sum = n * n;
            for (int met = 1; met < n; met++) {
                sum += 2 * met * met;
            }
            x.due(sum, "most", 0, 1, 3);
        }
    }

    private static void allButThatOne() {
        DUE.sentence(12, "ALL: .. (but that one likewise)");
        for (int n = 1; n <= 12; n++) {
            Calls x = two(n, 1, 0, 0);
            int sum = 0;
            for (int met = 1; met < n; met++) {
                sum += 2 * met * met;
            }
            x.due(sum, "most", 0, 0, 3);
            x.due(sum + n * n, "most", 1, 0, 3);
        }
    }

    private static void mostBad() {
        DUE.sentence(12, "MOST of a on b: .. BAD answers -100.");
        Calls x = new Calls(DUE);
        x.due(1, "most", 0, 5, 0);
        x.due(1, "most", 5, 0, 3);
        for (int what = 0; what < 4; what++) {
            x.beyond(FAR_BAD, "most", 0, 0, 5, 0, 0, what);
            x.beyond(FAR_BAD, "most", 1, 0, 5, 0, 0, what);
        }
        x.beyond(FAR_BAD, "most", 2, 0, 3, 0, 0, 0);
    }
}
