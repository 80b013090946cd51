import java.util.ArrayList;
import java.util.HashMap;
import java.util.List;
import java.util.Map;

/** The searches in the plainest way: every row is made, and every pair of pairs in it compared. */
final class PlainSearch {
    private static final Map<String, List<Long>> KEPT = new HashMap<>();

    private PlainSearch() {
    }

    static int line(long packed, int n, int x) {
        return (int) (packed >>> (4 * (n - 1 - x))) & 15;
    }

    /** How many pairs of pairs quarrel in a row of n columns and m lines; columns with 15 have no mark. */
    static int quarrels(long packed, int n, int m, int kind) {
        int all = 0;
        for (int a = 0; a < n; a++) {
            for (int b = a + 1; b < n; b++) {
                for (int c = a + 1; c < n; c++) {
                    int d = c + b - a;
                    if (d < n && alike(packed, n, m, kind, new int[] {a, b, c, d})) {
                        all++;
                    }
                }
            }
        }
        return all;
    }

    static boolean alike(long packed, int n, int m, int kind, int[] columns) {
        int[] y = new int[4];
        for (int i = 0; i < 4; i++) {
            y[i] = line(packed, n, columns[i]);
            if (y[i] == 15) {
                return false;
            }
        }
        int difference = y[1] - y[0] - (y[3] - y[2]);
        return kind == 0 ? difference == 0 : difference % m == 0;
    }

    static boolean holds(long square, long held, int n) {
        for (int x = 0; x < n; x++) {
            if (line(held, n, x) != 15 && line(held, n, x) != line(square, n, x)) {
                return false;
            }
        }
        return true;
    }

    static boolean isSquare(long packed, int n, int m) {
        if (n != m) {
            return false;
        }
        boolean[] seen = new boolean[16];
        for (int x = 0; x < n; x++) {
            int y = line(packed, n, x);
            if (y >= m || seen[y]) {
                return false;
            }
            seen[y] = true;
        }
        return true;
    }

    /** All SQUARES of n in order. */
    static List<Long> squares(int n) {
        List<Long> all = KEPT.get("squares " + n);
        if (all == null) {
            all = new ArrayList<>();
            permute(n, 0, 0L, 0, all);
            KEPT.put("squares " + n, all);
        }
        return all;
    }

    private static void permute(int n, int x, long packed, int taken, List<Long> all) {
        if (x == n) {
            all.add(packed);
            return;
        }
        for (int y = 0; y < n; y++) {
            if ((taken >> y & 1) == 0) {
                permute(n, x + 1, packed << 4 | y, taken | 1 << y, all);
            }
        }
    }

    static List<Long> leanSquares(int n) {
        List<Long> lean = KEPT.get("lean squares " + n);
        if (lean == null) {
            lean = new ArrayList<>();
            for (long square : squares(n)) {
                if (quarrels(square, n, n, 0) == 0) {
                    lean.add(square);
                }
            }
            KEPT.put("lean squares " + n, lean);
        }
        return lean;
    }

    static int squaresWith(int n, int q) {
        int all = 0;
        for (long square : squares(n)) {
            if (quarrels(square, n, n, 0) == q) {
                all++;
            }
        }
        return all;
    }

    /** LEAN ROWS of n columns over m LINES in order: each row of n - 1 columns is tried with each line behind it. */
    static List<Long> leanRows(int n, int m, int kind) {
        String key = "rows " + n + " " + m + " " + kind;
        List<Long> kept = KEPT.get(key);
        if (kept != null) {
            return kept;
        }
        List<Long> shorter = n == 1 ? List.of(0L) : leanRows(n - 1, m, kind);
        List<Long> all = new ArrayList<>();
        for (long start : shorter) {
            for (int y = 0; y < m; y++) {
                long packed = start << 4 | y;
                if (quarrels(packed, n, m, kind) == 0) {
                    all.add(packed);
                }
            }
        }
        KEPT.put(key, all);
        return all;
    }

    static int longest(int m, int kind) {
        int longest = 0;
        for (int n = 1; n <= 12; n++) {
            if (!leanRows(n, m, kind).isEmpty()) {
                longest = n;
            }
        }
        return longest;
    }
}
