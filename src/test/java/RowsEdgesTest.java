/** The boundary cases of promises 1, 2 and 7 to 10, a test for each of the document's sentences that names one. */
public final class RowsEdgesTest {
    private static final Due DUE = new Due("RowsEdgesTest");
    private static final int BAD = LeanMarks.BAD, NONE = LeanMarks.NONE;
    private static final int NO_DIFFERENCE = -50, FAR_BAD = -100;
    private static final long NOTHING = 0xFFFFFFFFFFFFL;

    public static void main(String[] args) {
        newRows();
        newHeard();
        newText();
        rowNumbers();
        rowColumns();
        rowLines();
        rowMarksWithin();
        rowMarksNone();
        rowFourBits();
        rowHad();
        rowMarkBeyond();
        toldColumnsAndLines();
        toldLineOfColumn();
        toldNoMark();
        toldNoSuchColumn();
        toldBad();
        marksOfAll();
        marksBad();
        differenceNoMark();
        differenceNoSuchColumn();
        differenceFarthest();
        differenceByLines();
        differenceBad();
        quarrelsNone();
        quarrelsEnds();
        quarrelsFirst();
        quarrelsEachOnce();
        quarrelsByLines();
        quarrelsLean();
        quarrelsBad();
        DUE.end();
    }

    /** The marks of n columns that have none but for column x. */
    private static long onlyAt(int n, int x, int line) {
        long none = (1L << 4 * n) - 1;
        int place = 4 * (n - 1 - x);
        return none & ~(15L << place) | (long) line << place;
    }

    private static void newRows() {
        DUE.sentence(1, "At first n 1, m 1, the mark in line 0.");
        Calls x = new Calls(DUE);
        for (int k = 0; k < 6; k++) {
            x.rowDue(k, 1, 1, 0);
            x.due(0, "told", k, 2);
            x.due(NONE, "told", k, 3);
        }
        x.due(6, "count", 1);
        x.due(6, "count", 3);
    }

    private static void newHeard() {
        DUE.sentence(1, "nothing is HEARD");
        Calls x = new Calls(DUE);
        x.due(0, "count", 2);
        x.due(0, "found", 0, 0);
        x.due(0, "still");
        x.due(1, "hear", 0, 0);
    }

    private static void newText() {
        DUE.sentence(1, "A new object (THE TEXT, as nothing came behind it)");
        Calls x = new Calls(DUE);
        x.due(0, "count", 0);
        x.due(NONE, "fault");
        x.due(0, "lay", 1);
        x.due(0, "wipe");
    }

    private static void rowNumbers() {
        DUE.sentence(2, "ROWS 0 to 5");
        Calls x = new Calls(DUE);
        x.due(1, "row", 0, 2, 2, 0x01);
        x.due(1, "row", 5, 3, 3, 0x012);
        x.beyond(BAD, "row", 0, 0, 5, 0, 4, 4, 0x0123);
        x.rowDue(0, 2, 2, 0x01);
        x.rowDue(5, 3, 3, 0x012);
        x.rowDue(4, 1, 1, 0);
    }

    private static void rowColumns() {
        DUE.sentence(2, "n columns (1 to 12)");
        Calls x = new Calls(DUE);
        x.due(1, "row", 0, 12, 12, 0xBA9876543210L);
        x.rowDue(0, 12, 12, 0xBA9876543210L);
        x.due(12, "row", 0, 1, 12, 0xB);
        x.rowDue(0, 1, 12, 0xB);
        x.beyond(BAD, "row", 1, 1, 12, 0, 1, 12, 0);
        // No columns and no marks, thirteen columns and all their marks: neither is a ROW.
        x.due(BAD, "row", 0, 0, 12, 0);
        x.due(BAD, "row", 0, 13, 12, 0x0123456789AB0L);
    }

    private static void rowLines() {
        DUE.sentence(2, "m LINES (1 to 12)");
        Calls x = new Calls(DUE);
        x.due(1, "row", 0, 2, 1, 0x00);
        x.rowDue(0, 2, 1, 0x00);
        x.due(2, "row", 0, 2, 12, 0xB0);
        x.rowDue(0, 2, 12, 0xB0);
        x.beyond(BAD, "row", 2, 1, 12, 0, 2, 12, 0x00);
        // Even without any mark there are LINES.
        x.beyond(BAD, "row", 2, 1, 12, 0, 2, 12, 0xFF);
    }

    private static void rowMarksWithin() {
        DUE.sentence(2, "in each column a mark in a line (0 to m - 1)");
        for (int m = 1; m <= 12; m++) {
            for (int column = 0; column < 12; column++) {
                Calls x = new Calls(DUE);
                x.due(1, "row", 0, 12, m, onlyAt(12, column, m - 1));
                x.due(m - 1, "told", 0, column + 2);
                x.due(12, "row", 0, 12, m, onlyAt(12, column, 0));
                x.due(0, "told", 0, column + 2);
                x.due(BAD, "row", 0, 12, m, onlyAt(12, column, m));
            }
        }
    }

    private static void rowMarksNone() {
        DUE.sentence(2, "or none (told as 15)");
        for (int m = 1; m <= 12; m++) {
            Calls x = new Calls(DUE);
            x.due(1, "row", 0, 1, m, 15);
            x.due(1, "row", 0, 12, m, NOTHING);
            x.rowDue(0, 12, m, NOTHING);
            x.due(5, "count", 1);
            for (int line = 12; line < 15; line++) {
                x.due(BAD, "row", 0, 1, m, line);
                x.due(BAD, "row", 0, 12, m, onlyAt(12, 11, line));
            }
        }
    }

    private static void rowFourBits() {
        DUE.sentence(2, "four bits each, column 0 the highest");
        for (int n = 1; n <= 12; n++) {
            Calls x = new Calls(DUE);
            x.due(1, "row", 0, n, 12, onlyAt(n, 0, 11));
            x.due(11, "told", 0, 2);
            x.due(n, "row", 0, n, 12, onlyAt(n, n - 1, 10));
            x.due(10, "told", 0, n + 1);
            // A bit above the n columns is a mark that no column has.
            x.due(BAD, "row", 0, n, 12, 1L << 4 * n);
            x.due(BAD, "row", 0, n, 12, 8L << 4 * n);
            x.due(BAD, "row", 0, n, 12, 15L << 4 * n);
            x.due(BAD, "row", 0, n, 12, Long.MIN_VALUE);
            x.due(BAD, "row", 0, n, 12, Long.MAX_VALUE);
            x.due(BAD, "row", 0, n, 12, -1L);
        }
    }

    private static void rowHad() {
        DUE.sentence(2, "ROW k: how many columns it had.");
        Calls x = new Calls(DUE);
        x.due(1, "row", 3, 12, 1, 0);
        x.due(12, "row", 3, 12, 2, 0);
        x.due(12, "row", 3, 1, 1, 0);
        x.due(1, "row", 3, 1, 1, 0xF);
        // What the wider ROW had behind the new last column is gone.
        x.due(NONE, "told", 3, 3);
        x.due(NONE, "told", 3, 13);
    }

    private static void rowMarkBeyond() {
        DUE.sentence(2, "BAD (a mark is beyond m).");
        Calls x = new Calls(DUE);
        x.due(1, "row", 2, 3, 3, 0x012);
        x.due(BAD, "row", 2, 3, 2, 0x012);
        x.due(BAD, "row", 2, 3, 1, 0x010);
        x.due(BAD, "row", 2, 3, 2, 0x2FF);
        x.rowDue(2, 3, 3, 0x012);
    }

    private static void toldColumnsAndLines() {
        DUE.sentence(7, "Of ROW k: columns (what = 0), LINES (1)");
        Calls x = new Calls(DUE);
        x.call("row", 0, 12, 1, NOTHING);
        x.call("row", 5, 1, 12, 0xF);
        x.due(12, "told", 0, 0);
        x.due(1, "told", 0, 1);
        x.due(1, "told", 5, 0);
        x.due(12, "told", 5, 1);
    }

    private static void toldLineOfColumn() {
        DUE.sentence(7, "the line of column what - 2 (2 to 13");
        Calls x = new Calls(DUE);
        x.call("row", 0, 12, 12, 0xB123456789A0L);
        x.due(11, "told", 0, 2);
        for (int column = 1; column < 11; column++) {
            x.due(column, "told", 0, column + 2);
        }
        x.due(0, "told", 0, 13);
    }

    private static void toldNoMark() {
        DUE.sentence(7, "NONE: no mark");
        Calls x = new Calls(DUE);
        x.call("row", 0, 12, 12, 0xF1234567890FL);
        x.due(NONE, "told", 0, 2);
        x.due(1, "told", 0, 3);
        x.due(0, "told", 0, 12);
        x.due(NONE, "told", 0, 13);
    }

    private static void toldNoSuchColumn() {
        DUE.sentence(7, "NONE: .. no such column");
        for (int n = 1; n <= 12; n++) {
            Calls x = new Calls(DUE);
            x.call("row", 0, 12, 1, 0);
            x.call("row", 0, n, 1, 0);
            x.due(0, "told", 0, n + 1);
            for (int what = n + 2; what <= 13; what++) {
                x.due(NONE, "told", 0, what);
            }
        }
    }

    private static void toldBad() {
        DUE.sentence(7, "Of ROW k: .. BAD.");
        Calls x = new Calls(DUE);
        x.beyond(BAD, "told", 1, 0, 13, 0, 0);
        x.beyond(BAD, "told", 0, 0, 5, 0, 0);
        x.beyond(BAD, "told", 0, 0, 5, 0, 13);
    }

    private static void marksOfAll() {
        DUE.sentence(8, "All its marks, as row() takes them.");
        for (int n = 1; n <= 12; n++) {
            long all = (1L << 4 * n) - 1;
            for (long marks : new long[] {0, all, all / 15 * 11, onlyAt(n, 0, 0), onlyAt(n, n - 1, 11)}) {
                Calls x = new Calls(DUE);
                x.call("row", 0, 12, 12, NOTHING);
                x.due(12, "row", 0, n, 12, marks);
                x.due(marks, "marks", 0);
            }
        }
    }

    private static void marksBad() {
        DUE.sentence(8, "All its marks .. BAD.");
        Calls x = new Calls(DUE);
        x.due(0, "marks", 0);
        x.due(0, "marks", 5);
        x.beyond(BAD, "marks", 0, 0, 5, 0);
    }

    private static void differenceNoMark() {
        DUE.sentence(9, "NONE answers -50: one has no mark");
        Calls x = new Calls(DUE);
        x.call("row", 0, 4, 4, 0x0FF3);
        for (int kind = 0; kind < 2; kind++) {
            x.due(3, "difference", 0, 0, 3, kind);
            x.due(NO_DIFFERENCE, "difference", 0, 0, 1, kind);
            x.due(NO_DIFFERENCE, "difference", 0, 2, 1, kind);
            x.due(NO_DIFFERENCE, "difference", 0, 1, 1, kind);
        }
    }

    private static void differenceNoSuchColumn() {
        DUE.sentence(9, "NONE answers -50: .. there is none");
        for (int n = 1; n <= 12; n++) {
            Calls x = new Calls(DUE);
            x.call("row", 0, 12, 12, 0);
            x.call("row", 0, n, 1, 0);
            if (n > 1) {
                x.due(0, "difference", 0, 0, n - 1, 0);
                x.due(0, "difference", 0, n - 2, 1, 1);
            }
            for (int kind = 0; kind < 2; kind++) {
                x.due(NO_DIFFERENCE, "difference", 0, n - 1, 1, kind);
                x.due(NO_DIFFERENCE, "difference", 0, n - 1, 11, kind);
                x.due(NO_DIFFERENCE, "difference", 0, 11, 11, kind);
            }
        }
    }

    private static void differenceFarthest() {
        DUE.sentence(9, "DIFFERENCE of the marks in columns x and x + d .. (x 0 to 11, d 1 to 11)");
        Calls x = new Calls(DUE);
        x.call("row", 0, 12, 12, onlyAt(12, 0, 11) & onlyAt(12, 11, 0));
        x.call("row", 1, 12, 12, onlyAt(12, 0, 0) & onlyAt(12, 11, 11));
        x.call("row", 2, 12, 12, onlyAt(12, 10, 11) & onlyAt(12, 11, 0));
        x.due(-11, "difference", 0, 0, 11, 0);
        x.due(1, "difference", 0, 0, 11, 1);
        x.due(11, "difference", 1, 0, 11, 0);
        x.due(11, "difference", 1, 0, 11, 1);
        x.due(-11, "difference", 2, 10, 1, 0);
        x.due(NO_DIFFERENCE, "difference", 2, 11, 1, 0);
    }

    private static void differenceByLines() {
        DUE.sentence(9, "by KIND 1 that by m (0 to m - 1)");
        for (int m = 1; m <= 12; m++) {
            Calls x = new Calls(DUE);
            x.call("row", 0, 3, m, (m - 1) * 16L);
            x.due(m - 1, "difference", 0, 0, 1, 0);
            x.due(m - 1, "difference", 0, 0, 1, 1);
            x.due(1 - m, "difference", 0, 1, 1, 0);
            x.due(m == 1 ? 0 : 1, "difference", 0, 1, 1, 1);
            x.due(0, "difference", 0, 0, 2, 1);
            if (m > 1) {
                // One line down comes round to the last one.
                x.call("row", 0, 2, m, 0x10);
                x.due(-1, "difference", 0, 0, 1, 0);
                x.due(m - 1, "difference", 0, 0, 1, 1);
            }
        }
    }

    private static void differenceBad() {
        DUE.sentence(9, "BAD -100 (x 0 to 11, d 1 to 11)");
        Calls x = new Calls(DUE);
        x.call("row", 0, 12, 12, 0);
        x.beyond(FAR_BAD, "difference", 0, 0, 5, 0, 0, 1, 0);
        x.beyond(FAR_BAD, "difference", 1, 0, 11, 0, 0, 1, 0);
        x.beyond(FAR_BAD, "difference", 2, 1, 11, 0, 0, 1, 0);
        x.beyond(FAR_BAD, "difference", 3, 0, 1, 0, 0, 1, 0);
    }

    private static void quarrelsDue(int n, int m, long marks, int kind, int first, int howMany) {
        Calls x = new Calls(DUE);
        x.due(1, "row", 0, n, m, marks);
        x.due(first, "quarrels", 0, kind, 0);
        x.due(howMany, "quarrels", 0, kind, 1);
        x.due(howMany == 0 ? 1 : 0, "quarrels", 0, kind, 2);
    }

    private static void quarrelsNone() {
        DUE.sentence(10, "The first QUARREL (what = 0; NONE)");
        for (int kind = 0; kind < 2; kind++) {
            quarrelsDue(1, 1, 0x0, kind, NONE, 0);
            quarrelsDue(1, 1, 0xF, kind, NONE, 0);
            quarrelsDue(2, 1, 0x00, kind, NONE, 0);
            quarrelsDue(12, 12, NOTHING, kind, NONE, 0);
            // Three marks quarrel only if they lie evenly.
            quarrelsDue(3, 1, 0x00F, kind, NONE, 0);
            quarrelsDue(4, 1, 0x00F0, kind, NONE, 0);
        }
    }

    private static void quarrelsEnds() {
        DUE.sentence(10, "told as 4096 a, 256 b, 16 c and d");
        for (int kind = 0; kind < 2; kind++) {
            quarrelsDue(12, 12, 0x000FFFFFFFFFL, kind, 0x0112, 1);
            quarrelsDue(12, 12, 0xFFFFFFFFF000L, kind, 0x9AAB, 1);
            quarrelsDue(12, 12, 0x0FFFFF0FFFF0L, kind, NONE, 0);
            quarrelsDue(11, 11, 0x0FFFF0FFFF0L, kind, 0x055A, 1);
            // 4 marks at both ends, each pair with its like: the near ones come first.
            quarrelsDue(12, 12, 0x3BFFFFFFFF08L, kind, 0x01AB, 2);
        }
    }

    private static void quarrelsFirst() {
        DUE.sentence(10, "a below c: the first by a, then b, then c");
        // By a: (0, 4) with (4, 8) ahead of (1, 2) with (2, 3).
        quarrelsDue(9, 11, 0x03455FFFAL, 0, 0x0448, 2);
        // By b: (0, 1) with (5, 6) ahead of (0, 2) with (2, 4).
        quarrelsDue(7, 9, 0x014F823L, 0, 0x0156, 3);
        // By c: (0, 1) with (2, 3) ahead of (0, 1) with (5, 6), and ahead of (2, 3) with (5, 6).
        quarrelsDue(7, 10, 0x0145F89L, 0, 0x0123, 6);
    }

    private static void quarrelsEachOnce() {
        DUE.sentence(10, "how many QUARRELS (each pair of pairs once)");
        for (int kind = 0; kind < 2; kind++) {
            for (int n = 1; n <= 12; n++) {
                // In a flat ROW all pairs as far apart are alike: (n - d) of them at each distance d.
                quarrelsDue(n, 1, 0, kind, n < 3 ? NONE : 0x0112, n * (n - 1) * (n - 2) / 6);
            }
        }
    }

    private static void quarrelsByLines() {
        DUE.sentence(10, "by KIND 1 that by m (0 to m - 1). QUARREL: two pairs of marks .. with one DIFFERENCE");
        for (int m = 2; m <= 12; m += 2) {
            // Half of the lines up and half of them down are one by m.
            long marks = m / 2 * 16L;
            quarrelsDue(3, m, marks, 0, NONE, 0);
            quarrelsDue(3, m, marks, 1, 0x0112, 1);
        }
        for (int m = 2; m <= 12; m++) {
            // One up and m - 1 down are one by m; then the ways across are one, too.
            long marks = 0x01FFF00L | (m - 1) * 16L;
            quarrelsDue(7, m, marks, 0, NONE, 0);
            quarrelsDue(7, m, marks, 1, 0x0156, 2);
        }
    }

    private static void quarrelsLean() {
        DUE.sentence(10, "LEAN is a ROW without any.");
        quarrelsDue(1, 1, 0xF, 0, NONE, 0);
        quarrelsDue(3, 3, 0x012, 0, 0x0112, 1);
        quarrelsDue(3, 3, 0x021, 0, NONE, 0);
        // By KIND 1 the same marks quarrel: 2 up and 1 down are one by 3 LINES.
        quarrelsDue(3, 3, 0x021, 1, 0x0112, 1);
    }

    private static void quarrelsBad() {
        DUE.sentence(10, "The first QUARREL .. 1 if it is LEAN (2). BAD.");
        Calls x = new Calls(DUE);
        x.beyond(BAD, "quarrels", 0, 0, 5, 0, 0, 1);
        x.beyond(BAD, "quarrels", 1, 0, 1, 0, 0, 1);
        x.beyond(BAD, "quarrels", 2, 0, 2, 0, 0, 1);
    }
}
