import java.math.BigInteger;
import java.util.HashSet;
import java.util.Set;

/** Promises 18 to 22: POWERS, SUMS, TURNED, LIKE and CORNERS. */
public final class MadeTest {
    private static final Due DUE = new Due("MadeTest");
    private static final int[] NO_ROW = {-1, 6, Integer.MIN_VALUE, Integer.MAX_VALUE};
    private static final int[] PRIMES = {3, 5, 7, 11, 13};

    public static void main(String[] args) {
        powers();
        powersRefused();
        sums();
        sumsRefused();
        turn();
        like();
        notSquare();
        takenOff();
        setOn();
        cornersOfAll();
        DUE.end();
    }

    private static int power(int g, int e, int p) {
        return BigInteger.valueOf(g).modPow(BigInteger.valueOf(e), BigInteger.valueOf(p)).intValue();
    }

    private static void powers() {
        for (int p : PRIMES) {
            for (int g = 2; g < p; g++) {
                for (int s = 0; s <= p - 2; s++) {
                    powersDue(p, g, s);
                }
            }
        }
    }

    private static void powersDue(int p, int g, int s) {
        long packed = 0;
        Set<Integer> lines = new HashSet<>();
        for (int x = 0; x < p - 1; x++) {
            int line = power(g, x + s, p) - 1;
            lines.add(line);
            packed = packed << 4 | line;
        }
        boolean square = lines.size() == p - 1;
        LeanMarks x = new LeanMarks();
        int k = s % 6;
        x.row(k, 2, 3, 0x21);
        DUE.is(18, "powers(" + p + ", " + g + ", " + s + ", " + k + ")", x.powers(p, g, s, k), square ? p - 1 : -2);
        DUE.is(18, "its marks", x.marks(k), square ? packed : 0x21);
        DUE.is(18, "its columns", x.told(k, 0), square ? p - 1 : 2);
        DUE.is(18, "its lines", x.told(k, 1), square ? p - 1 : 3);
        if (square) {
            DUE.is(18, "is LEAN", x.quarrels(k, 0, 2), 1);
        }
    }

    private static void powersRefused() {
        LeanMarks x = new LeanMarks();
        for (int p : new int[] {0, 1, 2, 4, 6, 8, 9, 10, 12, 14, 17, -3, -5, Integer.MIN_VALUE, Integer.MAX_VALUE}) {
            DUE.is(18, "p = " + p, x.powers(p, 2, 0, 0), LeanMarks.BAD);
            DUE.is(19, "p = " + p, x.sums(p, 2, 2, 0), LeanMarks.BAD);
        }
        for (int p : PRIMES) {
            for (int g : new int[] {1, 0, -1, p, p + 2, Integer.MIN_VALUE, Integer.MAX_VALUE}) {
                DUE.is(18, "p = " + p + ", g = " + g, x.powers(p, g, 0, 0), LeanMarks.BAD);
            }
            for (int s : new int[] {-1, p - 1, p, Integer.MIN_VALUE, Integer.MAX_VALUE}) {
                DUE.is(18, "p = " + p + ", s = " + s, x.powers(p, 2, s, 0), LeanMarks.BAD);
            }
            for (int k : NO_ROW) {
                DUE.is(18, "k = " + k, x.powers(p, 2, 0, k), LeanMarks.BAD);
                DUE.is(18, "k = " + k + ", ahead of NO", x.powers(5, 4, 0, k), LeanMarks.BAD);
            }
        }
        DUE.is(18, "nothing changed", x.count(3), 6);
    }

    private static void sums() {
        for (int p = 5; p <= 13; p++) {
            if (p == 5 || p == 7 || p == 11 || p == 13) {
                for (int g = 2; g < p; g++) {
                    for (int h = 2; h < p; h++) {
                        sumsDue(p, g, h);
                    }
                }
            }
        }
    }

    private static void sumsDue(int p, int g, int h) {
        long packed = 0;
        boolean square = true;
        Set<Integer> lines = new HashSet<>();
        for (int x = 0; x < p - 2; x++) {
            int partners = 0;
            int line = 0;
            for (int y = 0; y < p - 2; y++) {
                if ((power(g, x + 1, p) + power(h, y + 1, p)) % p == 1) {
                    partners++;
                    line = y;
                }
            }
            square = square && partners == 1 && lines.add(line);
            packed = packed << 4 | line;
        }
        LeanMarks x = new LeanMarks();
        int k = g % 6;
        x.row(k, 2, 3, 0x21);
        DUE.is(19, "sums(" + p + ", " + g + ", " + h + ", " + k + ")", x.sums(p, g, h, k), square ? p - 2 : -2);
        DUE.is(19, "its marks", x.marks(k), square ? packed : 0x21);
        DUE.is(19, "its columns", x.told(k, 0), square ? p - 2 : 2);
        DUE.is(19, "its lines", x.told(k, 1), square ? p - 2 : 3);
        if (square) {
            DUE.is(19, "is LEAN", x.quarrels(k, 0, 2), 1);
        }
    }

    private static void sumsRefused() {
        LeanMarks x = new LeanMarks();
        DUE.is(19, "p = 3", x.sums(3, 2, 2, 0), LeanMarks.BAD);
        for (int p : new int[] {5, 7, 11, 13}) {
            for (int g : new int[] {1, 0, -1, p, p + 2, Integer.MIN_VALUE, Integer.MAX_VALUE}) {
                DUE.is(19, "p = " + p + ", g = " + g, x.sums(p, g, 2, 0), LeanMarks.BAD);
                DUE.is(19, "p = " + p + ", h = " + g, x.sums(p, 2, g, 0), LeanMarks.BAD);
            }
            for (int k : NO_ROW) {
                DUE.is(19, "k = " + k, x.sums(p, 2, 2, k), LeanMarks.BAD);
                DUE.is(19, "k = " + k + ", ahead of NO", x.sums(7, 2, 3, k), LeanMarks.BAD);
            }
        }
        DUE.is(19, "nothing changed", x.count(3), 6);
    }

    /** The eight by fields of a board, one quarter turn after the other. */
    private static long turned(long packed, int n, int t) {
        boolean[][] board = new boolean[n][n];
        for (int x = 0; x < n; x++) {
            board[t >= 4 ? n - 1 - x : x][PlainSearch.line(packed, n, x)] = true;
        }
        for (int quarter = 0; quarter < t % 4; quarter++) {
            boolean[][] next = new boolean[n][n];
            for (int x = 0; x < n; x++) {
                for (int y = 0; y < n; y++) {
                    next[y][n - 1 - x] = board[x][y];
                }
            }
            board = next;
        }
        long out = 0;
        for (int x = 0; x < n; x++) {
            for (int y = 0; y < n; y++) {
                if (board[x][y]) {
                    out = out << 4 | y;
                }
            }
        }
        return out;
    }

    private static void turn() {
        for (int n = 1; n <= 5; n++) {
            for (long square : PlainSearch.squares(n)) {
                turnDue(n, square);
            }
        }
        turnDue(12, 0x0123456789ABL);
        turnDue(12, 0x60137A9B8542L);
        LeanMarks x = new LeanMarks();
        x.row(0, 3, 3, 0x012);
        for (int bad : new int[] {-1, 8, Integer.MIN_VALUE, Integer.MAX_VALUE}) {
            DUE.is(20, "t = " + bad, x.turn(0, bad), LeanMarks.BAD);
        }
        for (int bad : NO_ROW) {
            DUE.is(20, "k = " + bad, x.turn(bad, 0), LeanMarks.BAD);
            DUE.is(21, "k = " + bad, x.like(bad), LeanMarks.BAD);
        }
        DUE.is(20, "nothing changed", x.marks(0), 0x012);
    }

    private static void turnDue(int n, long square) {
        LeanMarks x = new LeanMarks();
        Set<Long> unlike = new HashSet<>();
        for (int t = 0; t < 8; t++) {
            x.row(t % 6, n, n, square);
            String call = "turn of " + Long.toHexString(square) + " by " + t;
            DUE.is(20, call, x.turn(t % 6, t), n);
            DUE.is(20, call + ": marks", x.marks(t % 6), turned(square, n, t));
            DUE.is(20, call + ": lines", x.told(t % 6, 1), n);
            unlike.add(turned(square, n, t));
        }
        x.row(3, n, n, square);
        DUE.is(21, "like of " + Long.toHexString(square), x.like(3), unlike.size());
        DUE.is(21, "like changes nothing", x.marks(3), square);
    }

    private static void like() {
        LeanMarks x = new LeanMarks();
        DUE.is(21, "one field", x.like(0), 1);
        x.row(0, 12, 12, 0x0123456789ABL);
        DUE.is(21, "a slope", x.like(0), 2);
        x.row(0, 4, 4, 0x1302);
        DUE.is(21, "turns alike", x.like(0), 2);
        x.row(0, 3, 3, 0x021);
        DUE.is(21, "a slope and a point", x.like(0), 4);
        x.row(0, 4, 4, 0x0231);
        DUE.is(21, "all eight", x.like(0), 8);
    }

    private static void notSquare() {
        long[][] rows = {{3, 4, 0x012}, {4, 3, 0x0122}, {3, 3, 0x01F}, {3, 3, 0x010}, {1, 1, 0xF}, {2, 1, 0x00},
            {12, 12, 0x0123456789AFL}, {12, 12, 0x0123456789AAL}, {1, 2, 0x0}};
        for (long[] told : rows) {
            LeanMarks x = new LeanMarks();
            x.row(1, (int) told[0], (int) told[1], told[2]);
            String of = " of " + told[0] + ", " + told[1] + ", " + Long.toHexString(told[2]);
            for (int t = 0; t < 8; t++) {
                DUE.is(20, "turn" + of, x.turn(1, t), LeanMarks.NO);
            }
            DUE.is(20, "turn, BAD ahead of NO", x.turn(1, 8), LeanMarks.BAD);
            DUE.is(21, "like" + of, x.like(1), LeanMarks.NO);
            for (int c = 0; c < 4; c++) {
                DUE.is(22, "corner off" + of, x.corner(1, c, false), LeanMarks.NO);
                DUE.is(22, "corner on" + of, x.corner(1, c, true), LeanMarks.NO);
            }
            DUE.is(22, "corner, BAD ahead of NO", x.corner(1, 4, true), LeanMarks.BAD);
            DUE.is(22, "nothing changed", x.marks(1), told[2]);
        }
    }

    private static void takenOff() {
        LeanMarks x = new LeanMarks();
        x.row(0, 4, 4, 0x0213);
        DUE.is(22, "no mark at column 3, line 0", x.corner(0, 1, false), LeanMarks.NO);
        DUE.is(22, "no mark at column 0, line 3", x.corner(0, 2, false), LeanMarks.NO);
        DUE.is(22, "both last", x.corner(0, 3, false), 3);
        DUE.is(22, "0 2 1", x.marks(0), 0x021);
        DUE.is(22, "three lines", x.told(0, 1), 3);
        DUE.is(22, "column 0, line 0", x.corner(0, 0, false), 2);
        DUE.is(22, "1 0", x.marks(0), 0x10);
        DUE.is(22, "column 0, the last line", x.corner(0, 2, false), 1);
        DUE.is(22, "0", x.marks(0), 0);
        for (int c = 0; c < 4; c++) {
            DUE.is(22, "n 2 and more", x.corner(0, c, false), LeanMarks.NO);
        }
        x.row(0, 2, 2, 0x10);
        DUE.is(22, "the last column, line 0", x.corner(0, 1, false), 1);
        for (int bad : new int[] {-1, 4, Integer.MIN_VALUE, Integer.MAX_VALUE}) {
            DUE.is(22, "c = " + bad, x.corner(0, bad, false), LeanMarks.BAD);
            DUE.is(22, "c = " + bad, x.corner(0, bad, true), LeanMarks.BAD);
        }
        for (int bad : NO_ROW) {
            DUE.is(22, "k = " + bad, x.corner(bad, 0, false), LeanMarks.BAD);
            DUE.is(22, "k = " + bad, x.corner(bad, 0, true), LeanMarks.BAD);
        }
    }

    private static void setOn() {
        long[] want = {0x0213, 0x2130, 0x3102, 0x1023};
        for (int c = 0; c < 4; c++) {
            LeanMarks x = new LeanMarks();
            x.row(2, 3, 3, 0x102);
            DUE.is(22, "corner " + c + " on 1 0 2", x.corner(2, c, true), 4);
            DUE.is(22, "its marks", x.marks(2), want[c]);
            DUE.is(22, "its lines", x.told(2, 1), 4);
            DUE.is(22, "off again", x.corner(2, c, false), 3);
            DUE.is(22, "as before", x.marks(2), 0x102);
            for (int n = 4; n <= 12; n++) {
                DUE.is(22, "on and on", x.corner(2, c, true), n);
            }
            long before = x.marks(2);
            DUE.is(22, "n to 11", x.corner(2, c, true), LeanMarks.NO);
            DUE.is(22, "nothing changed", x.marks(2), before);
            DUE.is(22, "off from 12", x.corner(2, c, false), 11);
        }
    }

    private static void cornersOfAll() {
        for (int n = 2; n <= 5; n++) {
            for (long square : PlainSearch.squares(n)) {
                for (int c = 0; c < 4; c++) {
                    LeanMarks x = new LeanMarks();
                    x.row(0, n, n, square);
                    int column = c % 2 == 0 ? 0 : n - 1;
                    int line = c / 2 == 0 ? 0 : n - 1;
                    boolean there = PlainSearch.line(square, n, column) == line;
                    DUE.is(22, "corner " + c + " off " + Long.toHexString(square), x.corner(0, c, false), there ? n - 1 : -2);
                    DUE.is(22, "on", x.corner(0, c, true), there ? n : n + 1);
                    if (there) {
                        DUE.is(22, "as before", x.marks(0), square);
                    }
                }
            }
        }
    }
}
