import java.util.Arrays;

/**
 * Rows of columns with one mark each, and the questions about marks that never lie alike twice.
 * The numbered promises stand in the document DOC.md; words in capitals are its words.
 *
 * Everything that a call needs is made in the constructor and used again: no call makes an object.
 */
public final class LeanMarks {
    public static final int BAD = -1, NO = -2, FULL = -3, NONE = -4;

    /** What the calls whose answers may be below zero answer for NONE and for BAD. */
    private static final int NO_DIFFERENCE = -50;
    private static final int FAR_BAD = -100;

    private static final int ROW_COUNT = 6;
    private static final int WIDEST = 12;
    private static final int UNMARKED = 15;
    private static final int FARTHEST_MOVE = 12;
    private static final int WIDEST_SEARCH = 8;
    private static final int WIDEST_NEARLY = 6;
    private static final int MOST_LINES_SEARCHED = 6;
    private static final int MOST_LINES_LONGEST = 4;

    private final Row[] table = new Row[ROW_COUNT];
    private final Row spare = new Row();
    private final Text text = new Text();
    private final Moves moves = new Moves();
    private final Search search = new Search();
    private final Permuting permuting = new Permuting();
    private final Echo echo = new Echo();
    private final long[] turnings = new long[8];

    public LeanMarks() {
        for (int k = 0; k < ROW_COUNT; k++) {
            table[k] = new Row();
        }
    }

    // ---- rows

    public int row(int k, int n, int m, long marks) {
        Row r = rowAt(k);
        if (r == null || !within(n, 1, WIDEST) || !within(m, 1, WIDEST) || !fits(n, m, marks)) {
            return BAD;
        }
        int had = r.columns();
        r.shape(n, m);
        for (int x = 0; x < n; x++) {
            r.put(x, nibble(marks, n - 1 - x));
        }
        return had;
    }

    public int write(int n, long v) {
        if (!within(n, 1, 8)) {
            return BAD;
        }
        if (!text.hasRoomFor(n)) {
            return FULL;
        }
        for (int i = n - 1; i >= 0; i--) {
            text.add((int) (v >>> (8 * i)) & 255);
        }
        return text.length();
    }

    public int wipe() {
        int had = text.length();
        text.clear();
        return had;
    }

    public int fault() {
        return text.firstFault();
    }

    public int lay(int m) {
        if (!within(m, 1, WIDEST)) {
            return BAD;
        }
        if (text.firstFault() != NONE || text.highestLine() >= m) {
            return NO;
        }
        int start = 0;
        int laid = 0;
        for (int i = 0; i < text.length(); i++) {
            if (text.endsRow(i)) {
                layOne(laid, m, start, i);
                laid++;
                start = i + 1;
            }
        }
        return laid;
    }

    public int told(int k, int what) {
        Row r = rowAt(k);
        if (r == null || !within(what, 0, WIDEST + 1)) {
            return BAD;
        }
        if (what == 0) {
            return r.columns();
        }
        if (what == 1) {
            return r.lines();
        }
        int x = what - 2;
        return r.markedAt(x) ? r.lineAt(x) : NONE;
    }

    public long marks(int k) {
        Row r = rowAt(k);
        return r == null ? BAD : r.packed();
    }

    public int difference(int k, int x, int d, int kind) {
        Row r = rowAt(k);
        if (r == null || !within(x, 0, WIDEST - 1) || !within(d, 1, WIDEST - 1) || !isKind(kind)) {
            return FAR_BAD;
        }
        return r.markedAt(x) && r.markedAt(x + d) ? r.step(x, x + d, kind) : NO_DIFFERENCE;
    }

    public int quarrels(int k, int kind, int what) {
        Row r = rowAt(k);
        if (r == null || !isKind(kind) || !within(what, 0, 2)) {
            return BAD;
        }
        if (what == 0) {
            return firstQuarrel(r, kind);
        }
        int all = quarrelCount(r, kind);
        if (what == 1) {
            return all;
        }
        return all == 0 ? 1 : 0;
    }

    // ---- hits

    public int hits(int a, int b, int dx, int dy, boolean round) {
        Row over = rowAt(a);
        Row under = rowAt(b);
        if (over == null || under == null || !isMove(dx) || !isMove(dy)) {
            return BAD;
        }
        return round ? meetingRound(over, under, dx, dy) : meeting(over, under, dx, dy);
    }

    public int most(int a, int b, int what) {
        Row over = rowAt(a);
        Row under = rowAt(b);
        if (over == null || under == null || !within(what, 0, 3)) {
            return FAR_BAD;
        }
        moves.lookAt(over, under, a == b);
        switch (what) {
            case 0:
                return moves.bestMeeting();
            case 1:
                return moves.bestDx();
            case 2:
                return moves.bestDy();
            default:
                return moves.sumOfSquares();
        }
    }

    // ---- searched

    public int squares(int n, int i, int k) {
        if (!within(n, 1, WIDEST_SEARCH) || i < -1 || rowAt(k) == null) {
            return BAD;
        }
        search.amongSquares(n);
        return countOrMake(i, k);
    }

    public int holding(int k, int i, int o) {
        Row r = rowAt(k);
        if (r == null || i < -1 || rowAt(o) == null) {
            return BAD;
        }
        if (r.columns() > WIDEST_SEARCH || r.columns() != r.lines()) {
            return NO;
        }
        search.amongSquares(r.columns());
        search.keepMarksOf(r);
        return countOrMake(i, o);
    }

    public int nearly(int n, int q) {
        if (!within(n, 1, WIDEST_NEARLY) || q < 0) {
            return BAD;
        }
        return permuting.withQuarrels(n, q);
    }

    public int rows(int n, int m, int kind, int i, int k) {
        if (!within(n, 1, WIDEST_SEARCH) || !within(m, 1, MOST_LINES_SEARCHED) || !isKind(kind)) {
            return BAD;
        }
        if (i < -1 || rowAt(k) == null) {
            return BAD;
        }
        search.amongRows(n, m, kind);
        return countOrMake(i, k);
    }

    public int longest(int m, int kind) {
        if (!within(m, 1, MOST_LINES_LONGEST) || !isKind(kind)) {
            return BAD;
        }
        int longest = 0;
        for (int n = 1; n <= WIDEST; n++) {
            search.amongRows(n, m, kind);
            // The first columns of a LEAN ROW are LEAN too: behind a gap there is nothing longer.
            if (!search.reach(0)) {
                break;
            }
            longest = n;
        }
        return longest;
    }

    // ---- made

    public int powers(int p, int g, int s, int k) {
        Row r = rowAt(k);
        if (!isToldPrime(p) || !within(g, 2, p - 1) || !within(s, 0, p - 2) || r == null) {
            return BAD;
        }
        int n = p - 1;
        spare.shape(n, n);
        int power = powerBy(g, s, p);
        for (int x = 0; x < n; x++) {
            spare.put(x, power - 1);
            power = rest(power * g, p);
        }
        return keepSquare(r);
    }

    public int sums(int p, int g, int h, int k) {
        Row r = rowAt(k);
        if (!isToldPrime(p) || p < 5 || !within(g, 2, p - 1) || !within(h, 2, p - 1) || r == null) {
            return BAD;
        }
        int n = p - 2;
        spare.shape(n, n);
        int power = g;
        for (int x = 0; x < n; x++) {
            spare.put(x, onlyPartner(power, h, p));
            power = rest(power * g, p);
        }
        return keepSquare(r);
    }

    public int turn(int k, int t) {
        Row r = rowAt(k);
        if (r == null || !within(t, 0, 7)) {
            return BAD;
        }
        if (!r.isSquare()) {
            return NO;
        }
        turnInto(spare, r, t);
        r.copyFrom(spare);
        return r.columns();
    }

    public int like(int k) {
        Row r = rowAt(k);
        if (r == null) {
            return BAD;
        }
        if (!r.isSquare()) {
            return NO;
        }
        int unlike = 0;
        for (int t = 0; t < turnings.length; t++) {
            turnInto(spare, r, t);
            turnings[t] = spare.packed();
            if (isNewTurning(t)) {
                unlike++;
            }
        }
        return unlike;
    }

    public int corner(int k, int c, boolean on) {
        Row r = rowAt(k);
        if (r == null || !within(c, 0, 3)) {
            return BAD;
        }
        if (!r.isSquare()) {
            return NO;
        }
        boolean lastColumn = (c & 1) != 0;
        boolean lastLine = (c & 2) != 0;
        return on ? setOn(r, lastColumn, lastLine) : takeOff(r, lastColumn, lastLine);
    }

    // ---- echoes

    public int hear(int x, int y) {
        if (!within(x, 0, Echo.LAST_COLUMN) || !within(y, -Echo.FARTHEST_LINE, Echo.FARTHEST_LINE)) {
            return BAD;
        }
        if (echo.holds(x, y)) {
            return NO;
        }
        if (echo.isFull()) {
            return FULL;
        }
        echo.add(x, y);
        return echo.size();
    }

    public int still() {
        int had = echo.size();
        echo.clear();
        return had;
    }

    public int found(int k, int what) {
        Row r = rowAt(k);
        if (r == null || !within(what, 0, 2)) {
            return FAR_BAD;
        }
        echo.seek(r);
        if (what == 0) {
            return echo.bestMeeting();
        }
        return what == 1 ? echo.bestLate() : echo.bestMoved();
    }

    public int among(int what) {
        if (!within(what, 0, 1)) {
            return BAD;
        }
        int best = -1;
        int second = -1;
        int bestRow = 0;
        for (int k = 0; k < ROW_COUNT; k++) {
            int now = bestHeard(k);
            if (now > best) {
                second = best;
                best = now;
                bestRow = k;
            } else if (now > second) {
                second = now;
            }
        }
        return what == 0 ? bestRow : best - second;
    }

    public int count(int what) {
        switch (what) {
            case 0:
                return text.length();
            case 1:
                return marksInAll();
            case 2:
                return echo.size();
            case 3:
                return columnsInAll();
            default:
                return BAD;
        }
    }

    // ---- what the calls share

    private static boolean within(int v, int low, int high) {
        return v >= low && v <= high;
    }

    private static boolean isKind(int kind) {
        return kind == 0 || kind == 1;
    }

    private static boolean isMove(int d) {
        return within(d, -FARTHEST_MOVE, FARTHEST_MOVE);
    }

    private static boolean isToldPrime(int p) {
        return p == 3 || p == 5 || p == 7 || p == 11 || p == 13;
    }

    /** v by m, 0 to m - 1. */
    private static int rest(int v, int m) {
        return m < 1 ? 0 : Math.floorMod(v, m);
    }

    private static int nibble(long packed, int place) {
        return (int) (packed >>> (4 * place)) & 15;
    }

    /** Whether the packed marks are those of n columns and no more, each within m LINES or none. */
    private static boolean fits(int n, int m, long packed) {
        if (packed >>> (4 * n) != 0L) {
            return false;
        }
        for (int place = 0; place < n; place++) {
            int line = nibble(packed, place);
            if (line >= m && line != UNMARKED) {
                return false;
            }
        }
        return true;
    }

    /** ROW k, or null if there is no such ROW. */
    private Row rowAt(int k) {
        return within(k, 0, ROW_COUNT - 1) ? table[k] : null;
    }

    private void layOne(int k, int m, int start, int end) {
        Row r = rowAt(k);
        if (r == null) {
            return;
        }
        r.shape(end - start, m);
        for (int x = 0; x < end - start; x++) {
            r.put(x, text.lineAt(start + x));
        }
    }

    /** The answer of the three calls that count (i = -1) or make the i-th of what is searched. */
    private int countOrMake(int i, int k) {
        if (i < 0) {
            return search.countAll();
        }
        Row r = rowAt(k);
        if (r == null) {
            return BAD;
        }
        if (!search.reach(i)) {
            return NONE;
        }
        search.giveTo(r);
        return k;
    }

    /** Whether columns (a, a + d) and (c, c + d) all have marks with one DIFFERENCE. */
    private static boolean quarrel(Row r, int kind, int a, int c, int d) {
        if (!r.markedAt(a) || !r.markedAt(a + d) || !r.markedAt(c) || !r.markedAt(c + d)) {
            return false;
        }
        return r.step(a, a + d, kind) == r.step(c, c + d, kind);
    }

    private static int firstQuarrel(Row r, int kind) {
        int n = r.columns();
        for (int a = 0; a < n; a++) {
            for (int b = a + 1; b < n; b++) {
                for (int c = a + 1; c + b - a < n; c++) {
                    if (quarrel(r, kind, a, c, b - a)) {
                        return 4096 * a + 256 * b + 16 * c + c + b - a;
                    }
                }
            }
        }
        return NONE;
    }

    private static int quarrelCount(Row r, int kind) {
        int n = r.columns();
        int all = 0;
        for (int d = 1; d < n; d++) {
            for (int c = 1; c + d < n; c++) {
                for (int a = 0; a < c; a++) {
                    if (quarrel(r, kind, a, c, d)) {
                        all++;
                    }
                }
            }
        }
        return all;
    }

    private static int meeting(Row over, Row under, int dx, int dy) {
        int met = 0;
        for (int x = 0; x < over.columns(); x++) {
            if (over.markedAt(x) && under.hasMark(x + dx, over.lineAt(x) + dy)) {
                met++;
            }
        }
        return met;
    }

    private static int meetingRound(Row over, Row under, int dx, int dy) {
        int met = 0;
        for (int x = 0; x < over.columns() && x < under.columns(); x++) {
            int y = over.lineAt(x);
            if (y != UNMARKED && y < under.lines()
                    && under.hasMark(rest(x + dx, under.columns()), rest(y + dy, under.lines()))) {
                met++;
            }
        }
        return met;
    }

    /** g to the e, by p. */
    private static int powerBy(int g, int e, int p) {
        int power = 1;
        for (int i = 0; i < e; i++) {
            power = rest(power * g, p);
        }
        return power;
    }

    /** The line y for which h to the (y and 1) makes up power to 1 by p; UNMARKED if not just one does. */
    private static int onlyPartner(int power, int h, int p) {
        int partner = UNMARKED;
        int other = h;
        for (int y = 0; y < p - 2; y++) {
            if (rest(power + other, p) == 1) {
                if (partner != UNMARKED) {
                    return UNMARKED;
                }
                partner = y;
            }
            other = rest(other * h, p);
        }
        return partner;
    }

    /** What has been made in the spare ROW becomes r, if it is a SQUARE. */
    private int keepSquare(Row r) {
        if (!spare.isSquare()) {
            return NO;
        }
        r.copyFrom(spare);
        return r.columns();
    }

    private static void turnInto(Row to, Row from, int t) {
        int n = from.columns();
        to.shape(n, n);
        for (int x = 0; x < n; x++) {
            int column = t >= 4 ? n - 1 - x : x;
            int line = from.lineAt(x);
            for (int quarter = 0; quarter < (t & 3); quarter++) {
                int before = column;
                column = line;
                line = n - 1 - before;
            }
            to.put(column, line);
        }
    }

    private boolean isNewTurning(int t) {
        for (int s = 0; s < t; s++) {
            if (turnings[s] == turnings[t]) {
                return false;
            }
        }
        return true;
    }

    private int takeOff(Row r, boolean lastColumn, boolean lastLine) {
        int n = r.columns();
        if (n < 2 || !r.hasMark(lastColumn ? n - 1 : 0, lastLine ? n - 1 : 0)) {
            return NO;
        }
        int columnShift = lastColumn ? 0 : 1;
        int lineShift = lastLine ? 0 : 1;
        spare.shape(n - 1, n - 1);
        for (int x = 0; x < n - 1; x++) {
            spare.put(x, r.lineAt(x + columnShift) - lineShift);
        }
        r.copyFrom(spare);
        return r.columns();
    }

    private int setOn(Row r, boolean lastColumn, boolean lastLine) {
        int n = r.columns();
        if (n >= WIDEST) {
            return NO;
        }
        int columnShift = lastColumn ? 0 : 1;
        int lineShift = lastLine ? 0 : 1;
        spare.shape(n + 1, n + 1);
        spare.put(lastColumn ? n : 0, lastLine ? n : 0);
        for (int x = 0; x < n; x++) {
            spare.put(x + columnShift, r.lineAt(x) + lineShift);
        }
        r.copyFrom(spare);
        return r.columns();
    }

    private int bestHeard(int k) {
        Row r = rowAt(k);
        if (r == null) {
            return 0;
        }
        echo.seek(r);
        return echo.bestMeeting();
    }

    private int marksInAll() {
        int all = 0;
        for (int k = 0; k < ROW_COUNT; k++) {
            Row r = rowAt(k);
            if (r != null) {
                all += r.markCount();
            }
        }
        return all;
    }

    private int columnsInAll() {
        int all = 0;
        for (int k = 0; k < ROW_COUNT; k++) {
            Row r = rowAt(k);
            if (r != null) {
                all += r.columns();
            }
        }
        return all;
    }

    /** A ROW: columns, LINES, and the line of each column's mark (UNMARKED: none). */
    static final class Row {
        private int columns = 1;
        private int lines = 1;
        private final int[] line = new int[WIDEST];

        int columns() {
            return columns;
        }

        int lines() {
            return lines;
        }

        /** n columns and m LINES without any mark. */
        void shape(int n, int m) {
            if (!within(n, 1, WIDEST) || !within(m, 1, WIDEST)) {
                return;
            }
            columns = n;
            lines = m;
            Arrays.fill(line, UNMARKED);
        }

        /** A line that is none of this ROW's leaves the column without a mark. */
        void put(int x, int y) {
            if (within(x, 0, columns - 1)) {
                line[x] = within(y, 0, lines - 1) ? y : UNMARKED;
            }
        }

        int lineAt(int x) {
            return within(x, 0, columns - 1) ? line[x] : UNMARKED;
        }

        boolean markedAt(int x) {
            return lineAt(x) != UNMARKED;
        }

        /** y may be any number: one that is no line of this ROW (15, too) is no mark. */
        boolean hasMark(int x, int y) {
            return y != UNMARKED && lineAt(x) == y;
        }

        /** The DIFFERENCE of the marks in columns a and b, a below b; both have one. */
        int step(int a, int b, int kind) {
            int plain = lineAt(b) - lineAt(a);
            return kind == 0 ? plain : rest(plain, lines);
        }

        int markCount() {
            int all = 0;
            for (int x = 0; x < columns; x++) {
                if (markedAt(x)) {
                    all++;
                }
            }
            return all;
        }

        long packed() {
            long all = 0L;
            for (int x = 0; x < columns; x++) {
                all = all << 4 | lineAt(x);
            }
            return all;
        }

        boolean isSquare() {
            int seen = 0;
            for (int x = 0; x < columns; x++) {
                seen |= 1 << lineAt(x);
            }
            return columns == lines && seen == (1 << columns) - 1;
        }

        void copyFrom(Row other) {
            shape(other.columns, other.lines);
            for (int x = 0; x < columns; x++) {
                put(x, other.lineAt(x));
            }
        }
    }

    /** THE TEXT. */
    static final class Text {
        private static final int LONGEST_TEXT = 60;
        private static final int ROW_END = ';';
        private static final int EMPTY_COLUMN = '.';

        private final int[] bytes = new int[LONGEST_TEXT];
        private int length = 0;

        int length() {
            return length;
        }

        void clear() {
            length = 0;
        }

        boolean hasRoomFor(int n) {
            return n <= LONGEST_TEXT - length;
        }

        void add(int b) {
            if (within(length, 0, LONGEST_TEXT - 1)) {
                bytes[length] = b;
                length++;
            }
        }

        private int byteAt(int i) {
            return i >= 0 && i < length && i < LONGEST_TEXT ? bytes[i] : 0;
        }

        boolean endsRow(int i) {
            return byteAt(i) == ROW_END;
        }

        /** UNMARKED for a byte that is no letter of a line. */
        int lineAt(int i) {
            int line = byteAt(i) - 'a';
            return within(line, 0, WIDEST - 1) ? line : UNMARKED;
        }

        private boolean isColumn(int i) {
            return byteAt(i) == EMPTY_COLUMN || lineAt(i) != UNMARKED;
        }

        /** The FAULT, or NONE. */
        int firstFault() {
            int columns = 0;
            int ended = 0;
            for (int i = 0; i < length; i++) {
                if (endsRow(i)) {
                    if (columns == 0) {
                        return i;
                    }
                    ended++;
                    columns = 0;
                } else {
                    if (!isColumn(i) || columns == WIDEST || ended == ROW_COUNT) {
                        return i;
                    }
                    columns++;
                }
            }
            return columns > 0 ? length : NONE;
        }

        /** -1, if there is no letter at all. */
        int highestLine() {
            int highest = -1;
            for (int i = 0; i < length; i++) {
                int line = lineAt(i);
                if (line != UNMARKED && line > highest) {
                    highest = line;
                }
            }
            return highest;
        }
    }

    /** How many marks meet at each move. Two marks meet at just one move, so each pair is looked at once. */
    static final class Moves {
        private static final int SIDE = 2 * FARTHEST_MOVE + 1;

        private final int[] met = new int[SIDE * SIDE];
        private int best;
        private int bestPlace;
        private int squared;

        void lookAt(Row over, Row under, boolean same) {
            Arrays.fill(met, 0);
            for (int x = 0; x < over.columns(); x++) {
                if (over.markedAt(x)) {
                    meetAll(x, over.lineAt(x), under);
                }
            }
            weigh(same ? placeOf(0, 0) : -1);
        }

        private static int placeOf(int dx, int dy) {
            return (dx + FARTHEST_MOVE) * SIDE + dy + FARTHEST_MOVE;
        }

        private void meetAll(int x, int y, Row under) {
            for (int column = 0; column < under.columns(); column++) {
                int dx = column - x;
                int dy = under.lineAt(column) - y;
                if (under.markedAt(column) && isMove(dx) && isMove(dy)) {
                    met[placeOf(dx, dy)]++;
                }
            }
        }

        private void weigh(int leftOut) {
            best = -1;
            bestPlace = 0;
            squared = 0;
            for (int place = 0; place < met.length; place++) {
                if (place != leftOut) {
                    squared += met[place] * met[place];
                    if (met[place] > best) {
                        best = met[place];
                        bestPlace = place;
                    }
                }
            }
        }

        int bestMeeting() {
            return best;
        }

        int bestDx() {
            return bestPlace / SIDE - FARTHEST_MOVE;
        }

        int bestDy() {
            return bestPlace % SIDE - FARTHEST_MOVE;
        }

        int sumOfSquares() {
            return squared;
        }
    }

    /**
     * Walks through LEAN ROWS or LEAN SQUARES in order. Column by column it knows, as bits, which
     * DIFFERENCES stand already at each distance, so that one shift tells the lines they rule out.
     */
    static final class Search {
        /** Bit of DIFFERENCE 0: those of KIND 1 stand there once above and once below it. */
        private static final int MIDDLE = 12;

        private final int[] line = new int[WIDEST];
        private final int[] standing = new int[WIDEST];
        private final int[] allowed = new int[WIDEST];
        private int columns = 1;
        private int lines = 1;
        private int kind;
        private boolean onePerLine;
        private int wanted;
        private int passed;

        void amongRows(int n, int m, int byKind) {
            if (!within(n, 1, WIDEST) || !within(m, 1, WIDEST)) {
                return;
            }
            columns = n;
            lines = m;
            kind = byKind;
            onePerLine = false;
            Arrays.fill(allowed, (1 << m) - 1);
        }

        void amongSquares(int n) {
            amongRows(n, n, 0);
            onePerLine = true;
        }

        void keepMarksOf(Row r) {
            for (int x = 0; x < columns && x < WIDEST; x++) {
                if (r.markedAt(x)) {
                    allowed[x] = 1 << r.lineAt(x);
                }
            }
        }

        int countAll() {
            begin(-1);
            walk(0, 0);
            return passed;
        }

        /** Whether there is an i-th; then it stands in line. */
        boolean reach(int i) {
            begin(i);
            return walk(0, 0);
        }

        void giveTo(Row r) {
            r.shape(columns, lines);
            for (int x = 0; x < columns && x < WIDEST; x++) {
                r.put(x, line[x]);
            }
        }

        private void begin(int i) {
            wanted = i;
            passed = 0;
            Arrays.fill(standing, 0);
        }

        /** Fills column x and those behind it; true as soon as the wanted one stands. */
        private boolean walk(int x, int taken) {
            if (!within(x, 0, columns - 1) || x >= WIDEST) {
                return false;
            }
            int free = freeLines(x, taken);
            if (x == columns - 1) {
                return endIn(x, free);
            }
            for (int y = 0; y < lines; y++) {
                if ((free >> y & 1) != 0) {
                    line[x] = y;
                    flipSteps(x);
                    if (walk(x + 1, onePerLine ? taken | 1 << y : 0)) {
                        return true;
                    }
                    flipSteps(x);
                }
            }
            return false;
        }

        private int freeLines(int x, int taken) {
            int free = allowed[x] & ~taken;
            for (int d = 1; d <= x && free != 0; d++) {
                free &= ~(standing[d] >>> (MIDDLE - line[x - d]));
            }
            return free;
        }

        /** Column x's steps from all earlier marks come to stand, or go again: none stood before. */
        private void flipSteps(int x) {
            for (int d = 1; d <= x; d++) {
                standing[d] ^= stepBits(line[x] - line[x - d]);
            }
        }

        private int stepBits(int step) {
            if (kind == 0) {
                return 1 << (MIDDLE + step);
            }
            int byLines = rest(step, lines);
            return 1 << (MIDDLE + byLines) | 1 << (MIDDLE + byLines - lines);
        }

        /** The last column needs no walk: each free line ends one ROW. */
        private boolean endIn(int x, int free) {
            int ends = Integer.bitCount(free);
            if (wanted < 0 || wanted - passed >= ends) {
                passed += ends;
                return false;
            }
            for (int y = 0; y < lines; y++) {
                if ((free >> y & 1) != 0) {
                    if (passed == wanted) {
                        line[x] = y;
                        return true;
                    }
                    passed++;
                }
            }
            return false;
        }
    }

    /** Walks through all SQUARES of n as long as they have no more than so many QUARRELS. */
    static final class Permuting {
        private final int[] line = new int[WIDEST_NEARLY];
        private int columns = 1;

        int withQuarrels(int n, int q) {
            if (!within(n, 1, WIDEST_NEARLY)) {
                return 0;
            }
            columns = n;
            return countFrom(0, 0, q);
        }

        private int countFrom(int x, int taken, int left) {
            if (x >= columns || x >= WIDEST_NEARLY) {
                return left == 0 ? 1 : 0;
            }
            int all = 0;
            for (int y = 0; y < columns; y++) {
                if ((taken >> y & 1) == 0) {
                    line[x] = y;
                    int stillLeft = left - newQuarrels(x);
                    if (stillLeft >= 0) {
                        all += countFrom(x + 1, taken | 1 << y, stillLeft);
                    }
                }
            }
            return all;
        }

        /** QUARRELS of pairs that end in column x with earlier pairs. */
        private int newQuarrels(int x) {
            int all = 0;
            for (int d = 1; d < x; d++) {
                int step = line[x] - line[x - d];
                for (int a = 0; a < x - d; a++) {
                    if (line[a + d] - line[a] == step) {
                        all++;
                    }
                }
            }
            return all;
        }
    }

    /** HEARD marks, and where a ROW is FOUND among them. */
    static final class Echo {
        static final int LAST_COLUMN = 30;
        static final int FARTHEST_LINE = 20;
        private static final int MOST_HEARD = 40;
        private static final int LATEST = 18;
        private static final int SIDE = 2 * FARTHEST_LINE + 1;

        private final int[] column = new int[MOST_HEARD];
        private final int[] line = new int[MOST_HEARD];
        private int heard = 0;
        private final int[] met = new int[(LATEST + 1) * SIDE];
        private int bestPlace;

        int size() {
            return heard;
        }

        boolean isFull() {
            return heard >= MOST_HEARD;
        }

        void clear() {
            heard = 0;
        }

        boolean holds(int x, int y) {
            for (int i = 0; i < heard && i < MOST_HEARD; i++) {
                if (column[i] == x && line[i] == y) {
                    return true;
                }
            }
            return false;
        }

        void add(int x, int y) {
            if (within(heard, 0, MOST_HEARD - 1)) {
                column[heard] = x;
                line[heard] = y;
                heard++;
            }
        }

        void seek(Row r) {
            Arrays.fill(met, 0);
            for (int x = 0; x < r.columns(); x++) {
                if (r.markedAt(x)) {
                    meetHeard(x, r.lineAt(x));
                }
            }
            bestPlace = 0;
            for (int place = 1; place < met.length; place++) {
                if (met[place] > met[bestPlace]) {
                    bestPlace = place;
                }
            }
        }

        private void meetHeard(int x, int y) {
            for (int i = 0; i < heard && i < MOST_HEARD; i++) {
                int late = column[i] - x;
                int moved = line[i] - y;
                if (within(late, 0, LATEST) && within(moved, -FARTHEST_LINE, FARTHEST_LINE)) {
                    met[late * SIDE + moved + FARTHEST_LINE]++;
                }
            }
        }

        int bestMeeting() {
            return within(bestPlace, 0, met.length - 1) ? met[bestPlace] : 0;
        }

        int bestLate() {
            return bestPlace / SIDE;
        }

        int bestMoved() {
            return bestPlace % SIDE - FARTHEST_LINE;
        }
    }
}
