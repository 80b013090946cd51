import java.util.ArrayList;
import java.util.LinkedHashSet;
import java.util.List;
import java.util.Set;
import java.util.regex.Matcher;
import java.util.regex.Pattern;

/** The document's promises once more, as plainly as they can be written, to compare answers with. */
final class PlainMarks {
    private static final int BAD = -1, NO = -2, FULL = -3, NONE = -4;

    private record Mark(int x, int y) { }

    private final int[] n = {1, 1, 1, 1, 1, 1};
    private final int[] m = {1, 1, 1, 1, 1, 1};
    private final long[] packed = new long[6];
    private final StringBuilder text = new StringBuilder();
    private final Set<Mark> heard = new LinkedHashSet<>();

    private static boolean in(int v, int low, int high) {
        return low <= v && v <= high;
    }

    private static boolean isRow(int k) {
        return in(k, 0, 5);
    }

    private List<Mark> marksOf(int k) {
        List<Mark> all = new ArrayList<>();
        for (int x = 0; x < n[k]; x++) {
            int y = PlainSearch.line(packed[k], n[k], x);
            if (y != 15) {
                all.add(new Mark(x, y));
            }
        }
        return all;
    }

    private void become(int k, int columns, int lines, long marks) {
        n[k] = columns;
        m[k] = lines;
        packed[k] = marks;
    }

    int row(int k, int columns, int lines, long marks) {
        if (!isRow(k) || !in(columns, 1, 12) || !in(lines, 1, 12) || marks < 0 || marks >= 1L << 4 * columns) {
            return BAD;
        }
        for (int x = 0; x < columns; x++) {
            int y = PlainSearch.line(marks, columns, x);
            if (y >= lines && y != 15) {
                return BAD;
            }
        }
        int had = n[k];
        become(k, columns, lines, marks);
        return had;
    }

    int write(int count, long v) {
        if (!in(count, 1, 8)) {
            return BAD;
        }
        if (text.length() + count > 60) {
            return FULL;
        }
        for (int i = count - 1; i >= 0; i--) {
            text.append((char) (v >> 8 * i & 255));
        }
        return text.length();
    }

    int wipe() {
        int had = text.length();
        text.setLength(0);
        return had;
    }

    int fault() {
        if (text.toString().matches("([a-l.]{1,12};){0,6}")) {
            return NONE;
        }
        // The longest start that can still become a text: the byte behind it is the first that cannot be.
        Matcher start = Pattern.compile("([a-l.]{1,12};){0,5}+([a-l.]{1,12};?)?").matcher(text);
        return start.lookingAt() ? start.end() : 0;
    }

    int lay(int lines) {
        if (!in(lines, 1, 12)) {
            return BAD;
        }
        if (fault() != NONE || text.chars().anyMatch(c -> c >= 'a' + lines)) {
            return NO;
        }
        if (text.length() == 0) {
            return 0;
        }
        String[] told = text.toString().split(";");
        for (int k = 0; k < told.length; k++) {
            long marks = 0;
            for (char c : told[k].toCharArray()) {
                marks = marks << 4 | (c == '.' ? 15 : c - 'a');
            }
            become(k, told[k].length(), lines, marks);
        }
        return told.length;
    }

    int told(int k, int what) {
        if (!isRow(k) || !in(what, 0, 13)) {
            return BAD;
        }
        if (what < 2) {
            return what == 0 ? n[k] : m[k];
        }
        for (Mark mark : marksOf(k)) {
            if (mark.x == what - 2) {
                return mark.y;
            }
        }
        return NONE;
    }

    long marks(int k) {
        return isRow(k) ? packed[k] : BAD;
    }

    int difference(int k, int x, int d, int kind) {
        if (!isRow(k) || !in(x, 0, 11) || !in(d, 1, 11) || !in(kind, 0, 1)) {
            return -100;
        }
        for (Mark a : marksOf(k)) {
            for (Mark b : marksOf(k)) {
                if (a.x == x && b.x == x + d) {
                    return kind == 0 ? b.y - a.y : (b.y - a.y + m[k]) % m[k];
                }
            }
        }
        return -50;
    }

    int quarrels(int k, int kind, int what) {
        if (!isRow(k) || !in(kind, 0, 1) || !in(what, 0, 2)) {
            return BAD;
        }
        int all = PlainSearch.quarrels(packed[k], n[k], m[k], kind);
        if (what > 0) {
            return what == 1 ? all : all == 0 ? 1 : 0;
        }
        int first = Integer.MAX_VALUE;
        for (int a = 0; a < n[k]; a++) {
            for (int b = a + 1; b < n[k]; b++) {
                for (int c = a + 1; c < n[k] - b + a; c++) {
                    int[] columns = {a, b, c, c + b - a};
                    if (PlainSearch.alike(packed[k], n[k], m[k], kind, columns)) {
                        first = Math.min(first, a * 4096 + b * 256 + c * 16 + columns[3]);
                    }
                }
            }
        }
        return first == Integer.MAX_VALUE ? NONE : first;
    }

    int hits(int a, int b, int dx, int dy, boolean round) {
        if (!isRow(a) || !isRow(b) || !in(dx, -12, 12) || !in(dy, -12, 12)) {
            return BAD;
        }
        int all = 0;
        List<Mark> under = marksOf(b);
        for (Mark mark : marksOf(a)) {
            int x = mark.x + dx;
            int y = mark.y + dy;
            if (round) {
                if (mark.x >= n[b] || mark.y >= m[b]) {
                    continue;
                }
                x = (x + 12 * n[b]) % n[b];
                y = (y + 12 * m[b]) % m[b];
            }
            all += under.contains(new Mark(x, y)) ? 1 : 0;
        }
        return all;
    }

    int most(int a, int b, int what) {
        if (!isRow(a) || !isRow(b) || !in(what, 0, 3)) {
            return -100;
        }
        int[] best = {-1, 0, 0, 0};
        for (int dx = -12; dx <= 12; dx++) {
            for (int dy = -12; dy <= 12; dy++) {
                if (a == b && dx == 0 && dy == 0) {
                    continue;
                }
                int now = hits(a, b, dx, dy, false);
                int sum = best[3] + now * now;
                if (now > best[0]) {
                    best = new int[] {now, dx, dy, 0};
                }
                best[3] = sum;
            }
        }
        return best[what];
    }

    private int countOrMake(List<Long> all, int i, int k, int columns, int lines) {
        if (i == -1) {
            return all.size();
        }
        if (i >= all.size()) {
            return NONE;
        }
        become(k, columns, lines, all.get(i));
        return k;
    }

    int squares(int size, int i, int k) {
        if (!in(size, 1, 8) || i < -1 || !isRow(k)) {
            return BAD;
        }
        return countOrMake(PlainSearch.leanSquares(size), i, k, size, size);
    }

    int holding(int k, int i, int o) {
        if (!isRow(k) || i < -1 || !isRow(o)) {
            return BAD;
        }
        if (n[k] > 8 || n[k] != m[k]) {
            return NO;
        }
        List<Long> all = new ArrayList<>();
        for (long square : PlainSearch.leanSquares(n[k])) {
            if (PlainSearch.holds(square, packed[k], n[k])) {
                all.add(square);
            }
        }
        return countOrMake(all, i, o, n[k], n[k]);
    }

    int nearly(int size, int q) {
        return !in(size, 1, 6) || q < 0 ? BAD : PlainSearch.squaresWith(size, q);
    }

    int rows(int columns, int lines, int kind, int i, int k) {
        if (!in(columns, 1, 8) || !in(lines, 1, 6) || !in(kind, 0, 1) || i < -1 || !isRow(k)) {
            return BAD;
        }
        return countOrMake(PlainSearch.leanRows(columns, lines, kind), i, k, columns, lines);
    }

    int longest(int lines, int kind) {
        return !in(lines, 1, 4) || !in(kind, 0, 1) ? BAD : PlainSearch.longest(lines, kind);
    }

    private static int power(int g, int e, int p) {
        int power = 1;
        for (int i = 0; i < e; i++) {
            power = power * g % p;
        }
        return power;
    }

    private int becomeSquare(int k, int size, long marks) {
        if (!PlainSearch.isSquare(marks, size, size)) {
            return NO;
        }
        become(k, size, size, marks);
        return size;
    }

    int powers(int p, int g, int s, int k) {
        if (!List.of(3, 5, 7, 11, 13).contains(p) || !in(g, 2, p - 1) || !in(s, 0, p - 2) || !isRow(k)) {
            return BAD;
        }
        long marks = 0;
        for (int x = 0; x < p - 1; x++) {
            marks = marks << 4 | power(g, x + s, p) - 1;
        }
        return becomeSquare(k, p - 1, marks);
    }

    int sums(int p, int g, int h, int k) {
        if (!List.of(5, 7, 11, 13).contains(p) || !in(g, 2, p - 1) || !in(h, 2, p - 1) || !isRow(k)) {
            return BAD;
        }
        long marks = 0;
        for (int x = 0; x < p - 2; x++) {
            List<Integer> partners = new ArrayList<>();
            for (int y = 0; y < p - 2; y++) {
                if ((power(g, x + 1, p) + power(h, y + 1, p)) % p == 1) {
                    partners.add(y);
                }
            }
            marks = marks << 4 | (partners.size() == 1 ? partners.get(0) : 15);
        }
        return becomeSquare(k, p - 2, marks);
    }

    private static long fromMarks(List<Mark> marks, int size) {
        long all = 0;
        for (int x = 0; x < size; x++) {
            for (Mark mark : marks) {
                if (mark.x == x) {
                    all = all << 4 | mark.y;
                }
            }
        }
        return all;
    }

    private long turned(int k, int t) {
        List<Mark> out = new ArrayList<>();
        for (Mark mark : marksOf(k)) {
            Mark now = t < 4 ? mark : new Mark(n[k] - 1 - mark.x, mark.y);
            for (int i = 0; i < t % 4; i++) {
                now = new Mark(now.y, n[k] - 1 - now.x);
            }
            out.add(now);
        }
        return fromMarks(out, n[k]);
    }

    int turn(int k, int t) {
        if (!isRow(k) || !in(t, 0, 7)) {
            return BAD;
        }
        if (!PlainSearch.isSquare(packed[k], n[k], m[k])) {
            return NO;
        }
        packed[k] = turned(k, t);
        return n[k];
    }

    int like(int k) {
        if (!isRow(k)) {
            return BAD;
        }
        if (!PlainSearch.isSquare(packed[k], n[k], m[k])) {
            return NO;
        }
        Set<Long> unlike = new LinkedHashSet<>();
        for (int t = 0; t < 8; t++) {
            unlike.add(turned(k, t));
        }
        return unlike.size();
    }

    int corner(int k, int c, boolean on) {
        if (!isRow(k) || !in(c, 0, 3)) {
            return BAD;
        }
        if (!PlainSearch.isSquare(packed[k], n[k], m[k]) || (on ? n[k] > 11 : n[k] < 2)) {
            return NO;
        }
        int size = on ? n[k] + 1 : n[k];
        Mark there = new Mark(c % 2 == 0 ? 0 : size - 1, c < 2 ? 0 : size - 1);
        List<Mark> marks = marksOf(k);
        if (!on && !marks.remove(there)) {
            return NO;
        }
        int by = on ? 1 : -1;
        List<Mark> out = new ArrayList<>();
        for (Mark mark : marks) {
            out.add(new Mark(mark.x + (there.x == 0 ? by : 0), mark.y + (there.y == 0 ? by : 0)));
        }
        if (on) {
            out.add(there);
        }
        become(k, n[k] + by, n[k] + by, fromMarks(out, n[k] + by));
        return n[k];
    }

    int hear(int x, int y) {
        if (!in(x, 0, 30) || !in(y, -20, 20)) {
            return BAD;
        }
        if (heard.contains(new Mark(x, y))) {
            return NO;
        }
        if (heard.size() == 40) {
            return FULL;
        }
        heard.add(new Mark(x, y));
        return heard.size();
    }

    int still() {
        int had = heard.size();
        heard.clear();
        return had;
    }

    int found(int k, int what) {
        if (!isRow(k) || !in(what, 0, 2)) {
            return -100;
        }
        int[] best = {-1, 0, 0};
        for (int late = 0; late <= 18; late++) {
            for (int moved = -20; moved <= 20; moved++) {
                int now = 0;
                for (Mark mark : marksOf(k)) {
                    now += heard.contains(new Mark(mark.x + late, mark.y + moved)) ? 1 : 0;
                }
                if (now > best[0]) {
                    best = new int[] {now, late, moved};
                }
            }
        }
        return best[what];
    }

    int among(int what) {
        if (!in(what, 0, 1)) {
            return BAD;
        }
        int best = 0;
        for (int k = 1; k < 6; k++) {
            best = found(k, 0) > found(best, 0) ? k : best;
        }
        int others = 0;
        for (int k = 0; k < 6; k++) {
            others = k == best ? others : Math.max(others, found(k, 0));
        }
        return what == 0 ? best : found(best, 0) - others;
    }

    int count(int what) {
        int marks = 0;
        int columns = 0;
        for (int k = 0; k < 6; k++) {
            marks += marksOf(k).size();
            columns += n[k];
        }
        return in(what, 0, 3) ? new int[] {text.length(), marks, heard.size(), columns}[what] : BAD;
    }
}
