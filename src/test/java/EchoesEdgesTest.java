/** The boundary cases of promises 23 to 27, a test for each of the document's sentences that names one. */
public final class EchoesEdgesTest {
    private static final Due DUE = new Due("EchoesEdgesTest");
    private static final int BAD = LeanMarks.BAD, NO = LeanMarks.NO, FULL = LeanMarks.FULL;
    private static final int FAR_BAD = -100;
    private static final long NOTHING = 0xFFFFFFFFFFFFL;

    public static void main(String[] args) {
        hearColumns();
        hearLines();
        hearForty();
        hearOnce();
        hearFirstRefusal();
        stillHowMany();
        stillRoom();
        foundNothing();
        foundLate();
        foundMoved();
        foundFirst();
        foundNotLean();
        foundBad();
        amongLowest();
        amongMost();
        clearNothing();
        clearAnyOther();
        amongBad();
        countBytes();
        countMarks();
        countHeard();
        countColumns();
        countBad();
        DUE.end();
    }

    private static Calls forty() {
        Calls x = new Calls(DUE);
        for (int i = 0; i < 40; i++) {
            x.due(i + 1, "hear", i % 31, i / 31 * 40 - 20);
        }
        return x;
    }

    private static void foundDue(Calls x, int k, int... want) {
        for (int what = 0; what < 3; what++) {
            x.due(want[what], "found", k, what);
        }
    }

    private static void hearColumns() {
        DUE.sentence(23, "HEARD marks .. columns 0 to 30");
        Calls x = new Calls(DUE);
        x.due(1, "hear", 0, 0);
        x.due(2, "hear", 30, 0);
        x.beyond(BAD, "hear", 0, 0, 30, 0, 1);
        x.due(2, "count", 2);
    }

    private static void hearLines() {
        DUE.sentence(23, "HEARD marks .. lines -20 to 20");
        Calls x = new Calls(DUE);
        x.due(1, "hear", 0, -20);
        x.due(2, "hear", 0, 20);
        x.due(3, "hear", 30, -20);
        x.due(4, "hear", 30, 20);
        x.beyond(BAD, "hear", 1, -20, 20, 0, 0);
        x.beyond(BAD, "hear", 1, -20, 20, 30, 0);
        x.due(4, "count", 2);
    }

    private static void hearForty() {
        DUE.sentence(23, "HEARD marks, 40 at most .. FULL");
        Calls x = forty();
        x.due(FULL, "hear", 15, 0);
        x.due(FULL, "hear", 30, 20);
        x.due(40, "count", 2);
        // The fortieth is heard, the one behind it is not.
        x.due(NO, "hear", 39 % 31, 20);
        x.due(FULL, "hear", 40 % 31, 20);
        // A ROW is FOUND by the fortieth alone: all before it come too late.
        Calls y = new Calls(DUE);
        for (int i = 0; i < 39; i++) {
            y.due(i + 1, "hear", 20 + i % 10, i / 10);
        }
        foundDue(y, 0, 0, 0, -20);
        y.due(40, "hear", 3, 4);
        foundDue(y, 0, 1, 3, 4);
    }

    private static void hearOnce() {
        DUE.sentence(23, "each once .. NO: it was");
        Calls x = new Calls(DUE);
        x.due(1, "hear", 7, -7);
        x.due(NO, "hear", 7, -7);
        x.due(2, "hear", 7, 7);
        x.due(3, "hear", 8, -7);
        x.due(NO, "hear", 7, -7);
        x.due(NO, "hear", 8, -7);
        x.due(3, "count", 2);
        // Once it is still, the same mark is a new one.
        x.due(3, "still");
        x.due(1, "hear", 7, -7);
        x.due(NO, "hear", 7, -7);
    }

    private static void hearFirstRefusal() {
        DUE.sentence(23, "BAD; NO: it was; FULL. .. Of several the first");
        Calls x = forty();
        x.due(NO, "hear", 0, -20);
        x.due(NO, "hear", 30, -20);
        x.due(NO, "hear", 8, 20);
        x.beyond(BAD, "hear", 0, 0, 30, 0, -20);
        x.beyond(BAD, "hear", 1, -20, 20, 0, 0);
        x.due(FULL, "hear", 0, 0);
    }

    private static void stillHowMany() {
        DUE.sentence(24, "Nothing is HEARD: how many were.");
        Calls x = new Calls(DUE);
        x.due(0, "still");
        x.due(1, "hear", 3, 3);
        x.due(1, "still");
        x.due(0, "still");
        x.due(0, "count", 2);
        Calls y = forty();
        y.due(40, "still");
        y.due(0, "still");
        foundDue(y, 0, 0, 0, -20);
    }

    private static void stillRoom() {
        DUE.sentence(24, "Nothing is HEARD (and there is room for 40 again)");
        Calls x = forty();
        x.due(FULL, "hear", 15, 15);
        x.due(40, "still");
        for (int i = 0; i < 40; i++) {
            x.due(i + 1, "hear", i % 31, i / 31);
        }
        x.due(FULL, "hear", 15, 15);
    }

    private static void foundNothing() {
        DUE.sentence(25, "at which most of its marks are HEARD (none is)");
        Calls x = new Calls(DUE);
        foundDue(x, 0, 0, 0, -20);
        // A ROW without marks is FOUND nowhere else, whatever is HEARD.
        Calls y = forty();
        y.due(1, "row", 0, 12, 12, NOTHING);
        foundDue(y, 0, 0, 0, -20);
        // None is told as 15, which is no line: 15 and -15 is not HEARD as 0.
        Calls z = new Calls(DUE);
        z.due(1, "row", 0, 2, 2, 0xFF);
        z.due(1, "hear", 0, 0);
        foundDue(z, 0, 0, 0, -20);
    }

    private static void foundLate() {
        DUE.sentence(25, "late (0 to 18 columns)");
        int[][] rows = {{1, 0}, {12, 11}, {7, 6}};
        for (int[] row : rows) {
            int n = row[0];
            int column = row[1];
            for (int late = -1; late <= 19; late++) {
                int heard = column + late;
                if (heard < 0 || heard > 30) {
                    continue;
                }
                Calls x = new Calls(DUE);
                // The mark is in the last column alone.
                x.due(1, "row", 0, n, 1, (1L << 4 * n) - 16);
                x.due(1, "hear", heard, 0);
                if (late >= 0 && late <= 18) {
                    foundDue(x, 0, 1, late, 0);
                } else {
                    foundDue(x, 0, 0, 0, -20);
                }
            }
        }
    }

    private static void foundMoved() {
        DUE.sentence(25, "moved (-20 to 20 lines)");
        for (int late : new int[] {0, 4, 18}) {
            for (int heard = -20; heard <= 20; heard++) {
                foundMovedDue(late, 0, heard);
                foundMovedDue(late, 1, heard);
                foundMovedDue(late, 11, heard);
            }
        }
    }

    private static void foundMovedDue(int late, int line, int heard) {
        Calls x = new Calls(DUE);
        x.due(1, "row", 0, 1, 12, line);
        x.due(1, "hear", late, heard);
        if (heard - line >= -20) {
            foundDue(x, 0, 1, late, heard - line);
        } else {
            foundDue(x, 0, 0, 0, -20);
        }
    }

    private static void foundFirst() {
        DUE.sentence(25, "the first by late, then moved");
        Calls x = new Calls(DUE);
        x.due(1, "hear", 18, -20);
        foundDue(x, 0, 1, 18, -20);
        x.due(2, "hear", 17, 20);
        foundDue(x, 0, 1, 17, 20);
        x.due(3, "hear", 17, 19);
        foundDue(x, 0, 1, 17, 19);
        x.due(4, "hear", 0, 20);
        foundDue(x, 0, 1, 0, 20);
        x.due(5, "hear", 0, -20);
        foundDue(x, 0, 1, 0, -20);
        // More marks at the last place of all go ahead of the first.
        x.due(1, "row", 0, 2, 1, 0x00);
        foundDue(x, 0, 1, 0, -20);
        x.due(6, "hear", 18, 20);
        foundDue(x, 0, 2, 17, 20);
        x.due(7, "hear", 19, 20);
        x.due(2, "row", 0, 3, 1, 0x000);
        foundDue(x, 0, 3, 17, 20);
        x.due(8, "hear", 20, 20);
        x.due(3, "row", 0, 4, 1, 0x0000);
        foundDue(x, 0, 4, 17, 20);
    }

    private static void foundNotLean() {
        DUE.sentence(25, "FOUND is a ROW (LEAN or not)");
        Calls x = new Calls(DUE);
        x.due(1, "row", 0, 12, 1, 0);
        for (int column = 0; column < 12; column++) {
            x.due(column + 1, "hear", 18 + column, 20);
        }
        foundDue(x, 0, 12, 18, 20);
        x.due(0, "quarrels", 0, 0, 2);
        // One column later the last mark would be HEARD in column 30, but no ROW is so late.
        x.due(13, "hear", 30, 20);
        foundDue(x, 0, 12, 18, 20);
    }

    private static void foundBad() {
        DUE.sentence(25, "FOUND: HITS .. BAD answers -100.");
        Calls x = new Calls(DUE);
        x.due(1, "hear", 0, 0);
        for (int what = 0; what < 3; what++) {
            x.beyond(FAR_BAD, "found", 0, 0, 5, 0, what);
        }
        x.beyond(FAR_BAD, "found", 1, 0, 2, 0, 0);
        x.beyond(FAR_BAD, "found", 1, 0, 2, 5, 0);
        foundDue(x, 5, 1, 0, 0);
    }

    private static void amongLowest() {
        DUE.sentence(26, "AMONG all six ROWS: the ROW with most, the lowest");
        Calls x = new Calls(DUE);
        x.due(0, "among", 0);
        x.due(1, "hear", 0, 0);
        x.due(0, "among", 0);
        // The lower ROWS lose their marks one by one.
        for (int k = 0; k < 5; k++) {
            x.due(1, "row", k, 1, 1, 0xF);
            x.due(k + 1, "among", 0);
        }
        x.due(1, "row", 5, 1, 1, 0xF);
        x.due(0, "among", 0);
    }

    private static void amongMost() {
        DUE.sentence(26, "AMONG all six ROWS: the ROW with most");
        for (int k = 0; k < 6; k++) {
            Calls x = new Calls(DUE);
            x.due(1, "hear", 0, 0);
            x.due(2, "hear", 1, 0);
            x.due(1, "row", k, 2, 1, 0x00);
            x.due(k, "among", 0);
            x.due(1, "among", 1);
        }
    }

    private static void clearNothing() {
        DUE.sentence(26, "CLEAR: how many more it has than any other ROW has at its best (none has any)");
        Calls x = new Calls(DUE);
        x.due(0, "among", 0);
        x.due(0, "among", 1);
        for (int k = 0; k < 6; k++) {
            x.due(1, "row", k, 12, 12, NOTHING);
        }
        x.due(1, "hear", 0, 0);
        x.due(0, "among", 0);
        x.due(0, "among", 1);
        // One mark of one ROW is 1 more than nothing.
        x.due(12, "row", 3, 1, 1, 0);
        x.due(3, "among", 0);
        x.due(1, "among", 1);
    }

    private static void clearAnyOther() {
        DUE.sentence(26, "CLEAR: how many more it has than any other ROW has at its best");
        for (int best = 0; best < 6; best++) {
            for (int other = 0; other < 6; other++) {
                if (other == best) {
                    continue;
                }
                Calls x = new Calls(DUE);
                for (int column = 0; column < 12; column++) {
                    x.call("hear", column, 0);
                }
                x.due(1, "row", best, 12, 1, 0);
                x.due(11, "among", 1);
                x.due(1, "row", other, 11, 1, 0);
                x.due(best, "among", 0);
                x.due(1, "among", 1);
                x.due(11, "row", other, 12, 1, 0);
                x.due(Math.min(best, other), "among", 0);
                x.due(0, "among", 1);
            }
        }
    }

    private static void amongBad() {
        DUE.sentence(26, "AMONG all: the ROW (what = 0), CLEAR (1). BAD.");
        Calls x = new Calls(DUE);
        x.due(1, "hear", 0, 0);
        x.beyond(BAD, "among", 0, 0, 1, 0);
    }

    private static void countBytes() {
        DUE.sentence(27, "How many: 0 bytes of THE TEXT");
        Calls x = new Calls(DUE);
        x.due(0, "count", 0);
        for (int length = 1; length <= 60; length++) {
            x.due(length, "write", 1, 0);
            x.due(length, "count", 0);
        }
        x.due(FULL, "write", 1, 0);
        x.due(60, "count", 0);
        x.due(60, "wipe");
        x.due(0, "count", 0);
    }

    private static void countMarks() {
        DUE.sentence(27, "1 marks of all ROWS");
        Calls x = new Calls(DUE);
        x.due(6, "count", 1);
        for (int k = 0; k < 6; k++) {
            x.due(1, "row", k, 12, 12, 0xB0B0B0B0B0B0L);
            x.due(12 * (k + 1) + 5 - k, "count", 1);
        }
        for (int k = 0; k < 6; k++) {
            x.due(12, "row", k, 12, 12, NOTHING);
            x.due(12 * (5 - k), "count", 1);
        }
    }

    private static void countHeard() {
        DUE.sentence(27, "2 HEARD marks");
        Calls x = new Calls(DUE);
        x.due(0, "count", 2);
        x.due(1, "hear", 0, 0);
        x.due(1, "count", 2);
        x.due(NO, "hear", 0, 0);
        x.due(1, "count", 2);
        Calls y = forty();
        y.due(40, "count", 2);
        y.due(FULL, "hear", 9, 9);
        y.due(40, "count", 2);
        y.due(40, "still");
        y.due(0, "count", 2);
    }

    private static void countColumns() {
        DUE.sentence(27, "3 columns of all ROWS");
        Calls x = new Calls(DUE);
        x.due(6, "count", 3);
        for (int k = 0; k < 6; k++) {
            // A column without a mark is a column.
            x.due(1, "row", k, 12, 1, NOTHING);
            x.due(12 * (k + 1) + 5 - k, "count", 3);
        }
    }

    private static void countBad() {
        DUE.sentence(27, "How many .. BAD.");
        Calls x = new Calls(DUE);
        x.beyond(BAD, "count", 0, 0, 3, 0);
    }
}
