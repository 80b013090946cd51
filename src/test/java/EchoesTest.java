/** Promises 23 to 27: HEARD marks, FOUND, AMONG and the counts. */
public final class EchoesTest {
    private static final Due DUE = new Due("EchoesTest");
    private static final int[] NO_ROW = {-1, 6, Integer.MIN_VALUE, Integer.MAX_VALUE};

    public static void main(String[] args) {
        heard();
        full();
        found();
        foundFirst();
        foundEdges();
        among();
        counts();
        DUE.end();
    }

    private static void heard() {
        LeanMarks x = new LeanMarks();
        for (int bad : new int[] {-1, 31, Integer.MIN_VALUE, Integer.MAX_VALUE}) {
            DUE.is(23, "x = " + bad, x.hear(bad, 0), LeanMarks.BAD);
        }
        for (int bad : new int[] {-21, 21, Integer.MIN_VALUE, Integer.MAX_VALUE}) {
            DUE.is(23, "y = " + bad, x.hear(0, bad), LeanMarks.BAD);
        }
        DUE.is(23, "nothing heard", x.count(2), 0);
        DUE.is(23, "the first", x.hear(0, -20), 1);
        DUE.is(23, "the second", x.hear(30, 20), 2);
        DUE.is(23, "the third", x.hear(0, 20), 3);
        DUE.is(23, "the fourth", x.hear(30, -20), 4);
        DUE.is(23, "it was", x.hear(30, 20), LeanMarks.NO);
        DUE.is(23, "it was", x.hear(0, -20), LeanMarks.NO);
        DUE.is(23, "as many", x.count(2), 4);
        DUE.is(24, "still", x.still(), 4);
        DUE.is(24, "still again", x.still(), 0);
        DUE.is(24, "count(2)", x.count(2), 0);
        DUE.is(24, "heard again", x.hear(30, 20), 1);
        DUE.is(24, "found as told anew", x.found(0, 0), 0);
    }

    private static void full() {
        LeanMarks x = new LeanMarks();
        for (int i = 0; i < 40; i++) {
            DUE.is(23, "mark " + i, x.hear(i % 31, i / 31), i + 1);
        }
        DUE.is(23, "the 41st", x.hear(30, 20), LeanMarks.FULL);
        DUE.is(23, "it was, ahead of FULL", x.hear(0, 0), LeanMarks.NO);
        DUE.is(23, "BAD ahead of FULL", x.hear(31, 0), LeanMarks.BAD);
        DUE.is(23, "as many", x.count(2), 40);
        DUE.is(24, "still", x.still(), 40);
        DUE.is(24, "room again", x.hear(30, 20), 1);
    }

    private static void foundDue(LeanMarks x, int k, int[] want) {
        for (int what = 0; what < 3; what++) {
            DUE.is(25, "found(" + k + ", " + what + ")", x.found(k, what), want[what]);
        }
    }

    private static void found() {
        LeanMarks x = new LeanMarks();
        foundDue(x, 0, new int[] {0, 0, -20});
        x.row(0, 4, 4, 0x0132);
        x.row(1, 4, 4, 0x01F2);
        x.row(2, 4, 4, 0xFFFF);
        int[] lines = {0, 1, 3, 2};
        for (int i = 0; i < 4; i++) {
            x.hear(5 + i, lines[i] - 3);
        }
        foundDue(x, 0, new int[] {4, 5, -3});
        foundDue(x, 1, new int[] {3, 5, -3});
        foundDue(x, 2, new int[] {0, 0, -20});
        // One mark lost and two false ones.
        x.still();
        x.hear(5, -3);
        x.hear(6, -2);
        x.hear(8, -1);
        x.hear(20, 20);
        x.hear(0, 0);
        foundDue(x, 0, new int[] {3, 5, -3});
        for (int bad : NO_ROW) {
            DUE.is(25, "k = " + bad, x.found(bad, 0), -100);
        }
        for (int bad : new int[] {-1, 3, Integer.MIN_VALUE, Integer.MAX_VALUE}) {
            DUE.is(25, "what = " + bad, x.found(0, bad), -100);
        }
    }

    private static void foundFirst() {
        LeanMarks x = new LeanMarks();
        x.hear(9, 4);
        x.hear(3, 7);
        x.hear(3, -7);
        // First by late, then by moved.
        foundDue(x, 0, new int[] {1, 3, -7});
        x.row(0, 2, 12, 0x00);
        foundDue(x, 0, new int[] {1, 2, -7});
        // A ROW that is not LEAN is FOUND as well.
        x.row(0, 3, 1, 0x000);
        x.hear(4, 7);
        x.hear(5, 7);
        foundDue(x, 0, new int[] {3, 3, 7});
    }

    private static void foundEdges() {
        LeanMarks x = new LeanMarks();
        x.row(0, 12, 12, 0xFFFFFFFFFFFBL);
        x.hear(29, 20);
        foundDue(x, 0, new int[] {1, 18, 9});
        x.still();
        x.hear(30, 20);
        foundDue(x, 0, new int[] {0, 0, -20});
        x.still();
        x.hear(11, -9);
        foundDue(x, 0, new int[] {1, 0, -20});
        x.still();
        x.hear(11, -10);
        foundDue(x, 0, new int[] {0, 0, -20});
        x.still();
        x.hear(10, 0);
        foundDue(x, 0, new int[] {0, 0, -20});
        x.still();
        x.hear(18, 20);
        foundDue(x, 1, new int[] {1, 18, 20});
        x.still();
        x.hear(19, 20);
        foundDue(x, 1, new int[] {0, 0, -20});
    }

    private static void among() {
        LeanMarks x = new LeanMarks();
        DUE.is(26, "all alike: the lowest", x.among(0), 0);
        DUE.is(26, "all alike: not clear", x.among(1), 0);
        x.hear(1, 1);
        x.hear(2, 3);
        x.hear(3, 2);
        x.hear(4, 9);
        x.row(4, 3, 3, 0x021);
        DUE.is(26, "ROW 4 with 3, the others with 1", x.among(0), 4);
        DUE.is(26, "2 more", x.among(1), 2);
        x.row(2, 2, 3, 0x02);
        DUE.is(26, "still ROW 4", x.among(0), 4);
        DUE.is(26, "ROW 2 ahead of it has 2", x.among(1), 1);
        x.row(5, 3, 3, 0x021);
        DUE.is(26, "the lower of two", x.among(0), 4);
        DUE.is(26, "not clear", x.among(1), 0);
        x.row(5, 4, 9, 0x0218);
        DUE.is(26, "the last has most", x.among(0), 5);
        DUE.is(26, "1 more than ROW 4", x.among(1), 1);
        for (int k = 0; k < 6; k++) {
            x.row(k, 1, 1, 0xF);
        }
        DUE.is(26, "no marks", x.among(0), 0);
        DUE.is(26, "no marks", x.among(1), 0);
        x.row(3, 1, 1, 0);
        DUE.is(26, "one mark", x.among(0), 3);
        DUE.is(26, "one mark", x.among(1), 1);
        for (int bad : new int[] {-1, 2, Integer.MIN_VALUE, Integer.MAX_VALUE}) {
            DUE.is(26, "what = " + bad, x.among(bad), LeanMarks.BAD);
        }
    }

    private static void counts() {
        LeanMarks x = new LeanMarks();
        x.row(0, 12, 12, 0x0123456789AFL);
        x.row(1, 3, 3, 0xFFF);
        x.row(5, 2, 2, 0xF0);
        x.write(5, 0);
        x.hear(3, 3);
        x.hear(3, 4);
        DUE.is(27, "bytes", x.count(0), 5);
        DUE.is(27, "marks", x.count(1), 11 + 0 + 1 + 3);
        DUE.is(27, "heard", x.count(2), 2);
        DUE.is(27, "columns", x.count(3), 12 + 3 + 2 + 3);
        for (int bad : new int[] {-1, 4, Integer.MIN_VALUE, Integer.MAX_VALUE}) {
            DUE.is(27, "what = " + bad, x.count(bad), LeanMarks.BAD);
        }
    }
}
