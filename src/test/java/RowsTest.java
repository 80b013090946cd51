/** Promises 1 to 10: a new object, ROWS, THE TEXT, DIFFERENCES and QUARRELS. */
public final class RowsTest {
    private static final Due DUE = new Due("RowsTest");
    private static final long NOTHING = 0xFFFFFFFFFFFFL;

    public static void main(String[] args) {
        newObject();
        rowTaken();
        rowRefused();
        textWritten();
        faults();
        laid();
        layRefused();
        told();
        marks();
        differences();
        quarrels();
        DUE.end();
    }

    private static void newObject() {
        LeanMarks x = new LeanMarks();
        for (int k = 0; k < 6; k++) {
            DUE.is(1, "new: told(" + k + ", 0)", x.told(k, 0), 1);
            DUE.is(1, "new: told(" + k + ", 1)", x.told(k, 1), 1);
            DUE.is(1, "new: told(" + k + ", 2)", x.told(k, 2), 0);
            DUE.is(1, "new: marks(" + k + ")", x.marks(k), 0);
        }
        DUE.is(1, "new: count(0)", x.count(0), 0);
        DUE.is(1, "new: count(1)", x.count(1), 6);
        DUE.is(1, "new: count(2)", x.count(2), 0);
        DUE.is(1, "new: count(3)", x.count(3), 6);
        DUE.is(1, "new: fault()", x.fault(), LeanMarks.NONE);
        LeanMarks other = new LeanMarks();
        x.row(0, 3, 3, 0x012);
        x.hear(0, 0);
        x.write(1, 'a');
        DUE.is(1, "another object: marks(0)", other.marks(0), 0);
        DUE.is(1, "another object: count(2)", other.count(2), 0);
        DUE.is(1, "another object: count(0)", other.count(0), 0);
    }

    private static void rowTaken() {
        LeanMarks x = new LeanMarks();
        DUE.is(2, "row had", x.row(0, 12, 12, 0x0123456789ABL), 1);
        DUE.is(2, "row had", x.row(0, 5, 7, 0x6F0F5L), 12);
        DUE.is(2, "row had", x.row(0, 12, 12, NOTHING), 5);
        DUE.is(2, "row had", x.row(0, 1, 1, 15), 12);
        DUE.is(2, "row had", x.row(5, 2, 1, 0x0F), 1);
        DUE.is(2, "marks(0)", x.marks(0), 15);
        DUE.is(2, "marks(5)", x.marks(5), 0x0F);
        DUE.is(2, "marks(1)", x.marks(1), 0);
        DUE.is(2, "leading columns may be line 0", x.row(1, 4, 2, 1), 1);
        DUE.is(2, "marks(1)", x.marks(1), 1);
        DUE.is(2, "lines of ROW 1", x.told(1, 1), 2);
    }

    private static void rowRefused() {
        LeanMarks x = new LeanMarks();
        x.row(2, 3, 4, 0x123);
        for (int k : new int[] {-1, 6, Integer.MIN_VALUE, Integer.MAX_VALUE}) {
            DUE.is(2, "row k = " + k, x.row(k, 3, 3, 0), LeanMarks.BAD);
        }
        for (int size : new int[] {0, -1, 13, Integer.MIN_VALUE, Integer.MAX_VALUE}) {
            DUE.is(2, "row n = " + size, x.row(2, size, 3, 0), LeanMarks.BAD);
            DUE.is(2, "row m = " + size, x.row(2, 3, size, 0), LeanMarks.BAD);
        }
        DUE.is(2, "a mark beyond m", x.row(2, 3, 3, 0x013), LeanMarks.BAD);
        DUE.is(2, "the first mark beyond m", x.row(2, 3, 3, 0x300), LeanMarks.BAD);
        for (long beyond = 12; beyond <= 14; beyond++) {
            DUE.is(2, "line " + beyond, x.row(2, 1, 12, beyond), LeanMarks.BAD);
        }
        DUE.is(2, "a fourth column", x.row(2, 3, 12, 0x1000), LeanMarks.BAD);
        DUE.is(2, "a thirteenth column", x.row(2, 12, 12, 1L << 48), LeanMarks.BAD);
        DUE.is(2, "below zero", x.row(2, 12, 12, -1L), LeanMarks.BAD);
        DUE.is(2, "below zero", x.row(2, 12, 12, Long.MIN_VALUE), LeanMarks.BAD);
        DUE.is(2, "nothing changed", x.marks(2), 0x123);
        DUE.is(2, "nothing changed", x.told(2, 0), 3);
        DUE.is(2, "nothing changed", x.told(2, 1), 4);
    }

    static long bytes(String s) {
        long v = 0;
        for (int i = 0; i < s.length(); i++) {
            v = v << 8 | s.charAt(i);
        }
        return v;
    }

    private static LeanMarks withText(String s) {
        LeanMarks x = new LeanMarks();
        for (int i = 0; i < s.length(); i += 8) {
            String part = s.substring(i, Math.min(s.length(), i + 8));
            x.write(part.length(), bytes(part));
        }
        return x;
    }

    private static void textWritten() {
        LeanMarks x = new LeanMarks();
        for (int n : new int[] {0, -1, 9, Integer.MIN_VALUE, Integer.MAX_VALUE}) {
            DUE.is(3, "write n = " + n, x.write(n, 0), LeanMarks.BAD);
        }
        DUE.is(3, "write 1", x.write(1, 'b'), 1);
        DUE.is(3, "write 2, the highest first", x.write(2, bytes("c;")), 3);
        DUE.is(3, "laid as written", x.lay(3), 1);
        DUE.is(3, "b before c", x.marks(0), 0x12);
        DUE.is(3, "bytes above the n are not written", x.write(2, bytes("zza;")), 5);
        DUE.is(3, "no fault from them", x.fault(), LeanMarks.NONE);
        for (int length = 13; length <= 53; length += 8) {
            DUE.is(3, "write 8", x.write(8, bytes("abcdefg;")), length);
        }
        DUE.is(3, "8 more than fit", x.write(8, 0), LeanMarks.FULL);
        DUE.is(3, "count(0) as before", x.count(0), 53);
        DUE.is(3, "7 just fit", x.write(7, bytes("abcdef;")), 60);
        DUE.is(3, "60 at most", x.write(1, 'a'), LeanMarks.FULL);
        DUE.is(3, "BAD ahead of FULL", x.write(9, 'a'), LeanMarks.BAD);
        DUE.is(3, "BAD ahead of FULL", x.write(0, 'a'), LeanMarks.BAD);
        DUE.is(4, "wipe", x.wipe(), 60);
        DUE.is(4, "wiped", x.count(0), 0);
        DUE.is(4, "wipe again", x.wipe(), 0);
        DUE.is(4, "fault of nothing", x.fault(), LeanMarks.NONE);
        DUE.is(4, "ROWS stay", x.marks(0), 0x12);
        DUE.is(4, "write after wipe", x.write(8, -1L), 8);
        DUE.is(3, "a byte 255 is a fault", x.fault(), 0);
    }

    private static void faultDue(String text, int place) {
        DUE.is(5, "fault of \"" + text + "\"", withText(text).fault(), place);
    }

    private static void faults() {
        faultDue("", LeanMarks.NONE);
        faultDue("abcdefghijkl;", LeanMarks.NONE);
        faultDue("............;", LeanMarks.NONE);
        faultDue("abcdefghijkla;", 12);
        faultDue("............", 12);
        faultDue(".............", 12);
        faultDue("a;abcdefghijkl.;", 14);
        faultDue("m;", 0);
        faultDue("a`;", 1);
        faultDue("aA;", 1);
        faultDue("a ;", 1);
        faultDue("a:;", 1);
        faultDue("ab/;", 2);
        faultDue("a\0;", 1);
        faultDue("a" + (char) 225 + ";", 1);
        faultDue(";", 0);
        faultDue("a;;", 2);
        faultDue("a", 1);
        faultDue("a;b", 3);
        faultDue("a;b;c;d;e;f;", LeanMarks.NONE);
        faultDue("a;b;c;d;e;f;g;", 12);
        faultDue("a;b;c;d;e;f;.", 12);
        faultDue("a;b;c;d;e;f;;", 12);
        faultDue("a;b;c;d;e;f;z", 12);
        faultDue("a;b;c;d;e;f", 11);
        faultDue("a;b;c;d;e;;", 10);
        faultDue("am;;z", 1);
        DUE.is(5, "fault changes nothing", withText("am").count(0), 2);
    }

    private static void laid() {
        LeanMarks x = withText("abc;.l.;a;");
        x.row(3, 2, 2, 0x01);
        x.row(0, 7, 7, 0);
        DUE.is(6, "three rows", x.lay(12), 3);
        DUE.is(6, "row 0", x.marks(0), 0x012);
        DUE.is(6, "row 0 columns", x.told(0, 0), 3);
        DUE.is(6, "row 0 lines", x.told(0, 1), 12);
        DUE.is(6, "row 1", x.marks(1), 0xFBF);
        DUE.is(6, "row 2", x.marks(2), 0);
        DUE.is(6, "row 2 lines", x.told(2, 1), 12);
        DUE.is(6, "row 3 stays", x.marks(3), 0x01);
        DUE.is(6, "row 3 lines stay", x.told(3, 1), 2);
        DUE.is(6, "the text stays", x.count(0), 10);
        DUE.is(6, "laid again", x.lay(12), 3);
        LeanMarks six = withText("a;b;c;d;e;f;");
        DUE.is(6, "six rows", six.lay(6), 6);
        DUE.is(6, "the sixth", six.marks(5), 5);
        LeanMarks points = withText("............;");
        DUE.is(6, "a row without marks, over one line", points.lay(1), 1);
        DUE.is(6, "its marks", points.marks(0), NOTHING);
        DUE.is(6, "no text, no rows", new LeanMarks().lay(1), 0);
    }

    private static void layRefused() {
        LeanMarks x = withText("ab;d;");
        for (int m : new int[] {0, -1, 13, Integer.MIN_VALUE, Integer.MAX_VALUE}) {
            DUE.is(6, "lay m = " + m, x.lay(m), LeanMarks.BAD);
        }
        DUE.is(6, "d is beyond 3 lines", x.lay(3), LeanMarks.NO);
        DUE.is(6, "nothing laid before the letter beyond", x.marks(0), 0);
        DUE.is(6, "nothing laid before the letter beyond", x.told(0, 0), 1);
        DUE.is(6, "d is in 4 lines", x.lay(4), 2);
        x.write(1, 'a');
        DUE.is(6, "a fault", x.lay(12), LeanMarks.NO);
        DUE.is(6, "BAD ahead of NO", x.lay(13), LeanMarks.BAD);
        DUE.is(6, "nothing changed", x.marks(0), 0x01);
    }

    private static void told() {
        LeanMarks x = new LeanMarks();
        x.row(4, 12, 11, 0x0A23F56789F9L);
        DUE.is(7, "columns", x.told(4, 0), 12);
        DUE.is(7, "lines", x.told(4, 1), 11);
        int[] lines = {0, 10, 2, 3, LeanMarks.NONE, 5, 6, 7, 8, 9, LeanMarks.NONE, 9};
        for (int column = 0; column < 12; column++) {
            DUE.is(7, "column " + column, x.told(4, column + 2), lines[column]);
        }
        x.row(4, 2, 2, 0x10);
        DUE.is(7, "the last column", x.told(4, 3), 0);
        DUE.is(7, "no such column", x.told(4, 4), LeanMarks.NONE);
        DUE.is(7, "no such column", x.told(4, 13), LeanMarks.NONE);
        for (int bad : new int[] {-1, 14, Integer.MIN_VALUE, Integer.MAX_VALUE}) {
            DUE.is(7, "what = " + bad, x.told(4, bad), LeanMarks.BAD);
        }
        for (int bad : new int[] {-1, 6, Integer.MIN_VALUE, Integer.MAX_VALUE}) {
            DUE.is(7, "k = " + bad, x.told(bad, 0), LeanMarks.BAD);
        }
    }

    private static void marks() {
        LeanMarks x = new LeanMarks();
        for (long packed : new long[] {0x0123456789ABL, NOTHING, 0xF00000000000L, 0xBL}) {
            x.row(3, 12, 12, packed);
            DUE.is(8, "as row() takes them", x.marks(3), packed);
        }
        for (int bad : new int[] {-1, 6, Integer.MIN_VALUE, Integer.MAX_VALUE}) {
            DUE.is(8, "k = " + bad, x.marks(bad), LeanMarks.BAD);
        }
    }

    private static void differences() {
        LeanMarks x = new LeanMarks();
        x.row(0, 5, 7, 0x5F063);
        DUE.is(9, "down", x.difference(0, 0, 2, 0), -5);
        DUE.is(9, "down by 7", x.difference(0, 0, 2, 1), 2);
        DUE.is(9, "up", x.difference(0, 2, 1, 0), 6);
        DUE.is(9, "up by 7", x.difference(0, 2, 1, 1), 6);
        DUE.is(9, "the earlier has no mark", x.difference(0, 1, 1, 0), -50);
        DUE.is(9, "the later has no mark", x.difference(0, 0, 1, 1), -50);
        DUE.is(9, "beyond the columns", x.difference(0, 4, 1, 0), -50);
        DUE.is(9, "both beyond the columns", x.difference(0, 11, 11, 1), -50);
        x.row(1, 12, 12, 0xB00000000000L);
        DUE.is(9, "the widest", x.difference(1, 0, 11, 0), -11);
        DUE.is(9, "the widest by 12", x.difference(1, 0, 11, 1), 1);
        DUE.is(9, "none between like lines", x.difference(1, 1, 1, 1), 0);
        x.row(2, 2, 1, 0);
        DUE.is(9, "over one line", x.difference(2, 0, 1, 1), 0);
        for (int bad : new int[] {-1, 12, Integer.MIN_VALUE, Integer.MAX_VALUE}) {
            DUE.is(9, "x = " + bad, x.difference(0, bad, 1, 0), -100);
            DUE.is(9, "d = " + bad, x.difference(0, 0, bad, 0), -100);
            DUE.is(9, "k = " + bad, x.difference(bad, 0, 1, 0), -100);
            DUE.is(9, "kind = " + bad, x.difference(0, 0, 1, bad), -100);
        }
        DUE.is(9, "d = 0", x.difference(0, 0, 0, 0), -100);
        DUE.is(9, "kind = 2", x.difference(0, 0, 1, 2), -100);
        DUE.is(9, "BAD ahead of NONE", x.difference(0, 1, 1, 2), -100);
    }

    private static void quarrelsDue(int n, int m, long packed, int kind, int first, int howMany) {
        LeanMarks x = new LeanMarks();
        x.row(1, n, m, packed);
        String call = "quarrels of " + Long.toHexString(packed) + " by kind " + kind + ", ";
        DUE.is(10, call + "0", x.quarrels(1, kind, 0), first);
        DUE.is(10, call + "1", x.quarrels(1, kind, 1), howMany);
        DUE.is(10, call + "2", x.quarrels(1, kind, 2), howMany == 0 ? 1 : 0);
    }

    private static void quarrels() {
        quarrelsDue(1, 1, 0, 0, LeanMarks.NONE, 0);
        quarrelsDue(2, 1, 0x00, 1, LeanMarks.NONE, 0);
        quarrelsDue(3, 1, 0x000, 0, 0x0112, 1);
        quarrelsDue(12, 12, 0x0123456789ABL, 0, 0x0112, 220);
        quarrelsDue(12, 12, NOTHING, 0, LeanMarks.NONE, 0);
        quarrelsDue(4, 4, 0x0132, 0, LeanMarks.NONE, 0);
        // 0 1 0 1: (0,1) with (2,3), and (0,2) with (1,3).
        quarrelsDue(4, 4, 0x0101, 0, 0x0123, 2);
        quarrelsDue(4, 4, 0x0101, 1, 0x0123, 2);
        // By 2 lines 1 and -1 are one: (0,1), (1,2), (2,3) each with each, and (0,2) with (1,3).
        quarrelsDue(4, 2, 0x0101, 1, 0x0112, 4);
        // A column without a mark takes its pairs along.
        quarrelsDue(3, 1, 0x0F0, 0, LeanMarks.NONE, 0);
        // Two up, one down: by 3 lines the same.
        quarrelsDue(5, 3, 0x0F2F1, 0, LeanMarks.NONE, 0);
        quarrelsDue(5, 3, 0x0F2F1, 1, 0x0224, 1);
        // By a ahead of b: (0,4) with (4,8), then (1,2) with (2,3).
        quarrelsDue(9, 11, 0x03455FFFAL, 0, 0x0448, 2);
        // By b ahead of c: (0,1) with (5,6), then (0,2) with (2,4), then (0,5) with (1,6).
        quarrelsDue(7, 9, 0x014F823L, 0, 0x0156, 3);
        quarrelsDue(12, 12, 0xFFFFFFFFF000L, 0, 0x9AAB, 1);
        LeanMarks x = new LeanMarks();
        for (int bad : new int[] {-1, 6, Integer.MIN_VALUE, Integer.MAX_VALUE}) {
            DUE.is(10, "k = " + bad, x.quarrels(bad, 0, 0), LeanMarks.BAD);
            DUE.is(10, "kind = " + bad, x.quarrels(0, bad, 0), LeanMarks.BAD);
            DUE.is(10, "what = " + bad, x.quarrels(0, 0, bad), LeanMarks.BAD);
        }
        DUE.is(10, "kind = 2", x.quarrels(0, 2, 0), LeanMarks.BAD);
        DUE.is(10, "what = 3", x.quarrels(0, 0, 3), LeanMarks.BAD);
    }
}
