/** The boundary cases of promises 3 to 6, a test for each of the document's sentences that names one. */
public final class TextEdgesTest {
    private static final Due DUE = new Due("TextEdgesTest");
    private static final int BAD = LeanMarks.BAD, NO = LeanMarks.NO, FULL = LeanMarks.FULL, NONE = LeanMarks.NONE;
    private static final String SIXTY = "abcdefghi;jklabcdef;ghijklabc;.........;aaaaaaaaa;lllllllll;";

    public static void main(String[] args) {
        writeBytes();
        writeHighestFirst();
        writeSixty();
        writeFull();
        writeBad();
        wipeHowLong();
        wipeRoom();
        faultSigns();
        faultSixRows();
        faultColumns();
        faultLetterBeyond();
        faultThirteenth();
        faultWithoutColumns();
        faultSeventhRow();
        faultEnd();
        faultFirst();
        faultNone();
        layLines();
        layEmpty();
        layRows();
        layColumns();
        layFault();
        layBeyond();
        DUE.end();
    }

    private static Calls with(String text) {
        Calls x = new Calls(DUE);
        x.write(text);
        x.due(text.length(), "count", 0);
        return x;
    }

    private static void faultDue(int place, String text) {
        with(text).due(place, "fault");
    }

    private static void writeBytes() {
        DUE.sentence(3, "n bytes (1 to 8) of v");
        Calls x = new Calls(DUE);
        int length = 0;
        for (int n = 1; n <= 8; n++) {
            length += n;
            x.due(length, "write", n, 0);
            x.due(length, "count", 0);
        }
        x.beyond(BAD, "write", 0, 1, 8, 1, 0);
    }

    private static void writeHighestFirst() {
        DUE.sentence(3, "of v, the highest first, come behind THE TEXT");
        Calls x = new Calls(DUE);
        x.due(8, "write", 8, Calls.bytes("abcdefgh"));
        x.due(12, "write", 4, Calls.bytes("ijk;"));
        // What v has above the n bytes does not come.
        x.due(14, "write", 2, Calls.bytes("zzzzzzl;"));
        x.due(15, "write", 1, -256L + 'b');
        x.due(16, "write", 1, Long.MIN_VALUE + ';');
        x.due(3, "lay", 12);
        x.rowDue(0, 11, 12, 0x0123456789AL);
        x.rowDue(1, 1, 12, 0xB);
        x.rowDue(2, 1, 12, 0x1);
        // A byte with its highest bit is a byte as well: it is no letter, and nothing behind it is touched.
        Calls y = new Calls(DUE);
        y.due(8, "write", 8, 0x613BE13B613B613BL);
        y.due(2, "fault");
        y.due(16, "write", 8, -1L);
        y.due(2, "fault");
    }

    private static void writeSixty() {
        DUE.sentence(3, "A TEXT is bytes (60 at most)");
        for (int n = 1; n <= 8; n++) {
            Calls x = with(SIXTY.substring(0, 60 - n));
            x.due(60, "write", n, Calls.bytes(SIXTY.substring(60 - n)));
            x.due(NONE, "fault");
            x.due(FULL, "write", 1, 'a');
            x.due(6, "lay", 12);
            x.rowDue(5, 9, 12, 0xBBBBBBBBBL);
        }
    }

    private static void writeFull() {
        DUE.sentence(3, "come behind THE TEXT: how long it is. BAD; FULL.");
        for (int n = 1; n <= 8; n++) {
            // One byte too many: not one of them comes.
            Calls x = with(SIXTY.substring(0, 61 - n));
            x.due(FULL, "write", n, 0);
            x.due(61 - n, "count", 0);
            if (n > 1) {
                x.due(60, "write", n - 1, Calls.bytes(SIXTY.substring(61 - n)));
            }
            x.due(NONE, "fault");
            x.due(FULL, "write", n, 0);
        }
    }

    private static void writeBad() {
        DUE.sentence(3, "BAD; FULL. .. Of several the first");
        Calls x = with(SIXTY);
        x.beyond(BAD, "write", 0, 1, 8, 1, 0);
        x.due(FULL, "write", 8, 0);
    }

    private static void wipeHowLong() {
        DUE.sentence(4, "THE TEXT is empty: how long it was.");
        for (int length : new int[] {0, 1, 59, 60}) {
            Calls x = with(SIXTY.substring(0, length));
            x.call("row", 4, 3, 3, 0x012);
            x.call("hear", 30, 20);
            x.due(length, "wipe");
            x.due(0, "count", 0);
            x.due(NONE, "fault");
            x.due(0, "lay", 1);
            x.due(0, "wipe");
            x.rowDue(4, 3, 3, 0x012);
            x.due(1, "count", 2);
        }
    }

    private static void wipeRoom() {
        DUE.sentence(4, "THE TEXT is empty");
        Calls x = with(SIXTY);
        x.due(60, "wipe");
        x.write("b;");
        // What stood there is not read behind the new end.
        x.due(NONE, "fault");
        x.due(1, "lay", 2);
        x.rowDue(0, 1, 2, 1);
        x.rowDue(1, 1, 1, 0);
        x.write(SIXTY.substring(2));
        x.due(60, "count", 0);
        x.due(FULL, "write", 1, ';');
    }

    private static void faultSigns() {
        DUE.sentence(5, "letters a to l (lines 0 to 11), . (none), and ;");
        for (int sign = 0; sign < 256; sign++) {
            boolean column = sign >= 'a' && sign <= 'l' || sign == '.';
            faultDue(column ? NONE : 0, (char) sign + ";");
            faultDue(column ? NONE : sign == ';' ? 2 : 1, "a" + (char) sign + ";");
            faultDue(column || sign == ';' ? sign == ';' ? NONE : 2 : 1, "a" + (char) sign);
        }
    }

    private static void faultSixRows() {
        DUE.sentence(5, "; behind each of its rows, six rows at most");
        StringBuilder text = new StringBuilder();
        for (int rows = 1; rows <= 6; rows++) {
            text.append("a;");
            faultDue(NONE, text.toString());
        }
        faultDue(12, text + "a;");
        faultDue(NONE, SIXTY);
    }

    private static void faultColumns() {
        DUE.sentence(5, "of 1 to 12 columns each");
        for (int columns = 1; columns <= 14; columns++) {
            String row = "abcdefghijklab".substring(0, columns) + ";";
            faultDue(columns <= 12 ? NONE : 12, row);
            faultDue(columns <= 12 ? NONE : 12, "..............".substring(0, columns) + ";");
            faultDue(columns <= 12 ? NONE : 12 + 13, "............;" + row);
        }
        faultDue(0, ";");
    }

    private static void faultLetterBeyond() {
        DUE.sentence(5, "the first byte that is not so (a letter beyond l");
        for (char letter = 'm'; letter <= 'z'; letter++) {
            faultDue(0, letter + ";");
            faultDue(3, "a;b" + letter + ";");
            faultDue(11, "abcdefghijk" + letter + ";");
            faultDue(59, SIXTY.substring(0, 59) + letter);
        }
        faultDue(NONE, "l;");
    }

    private static void faultThirteenth() {
        DUE.sentence(5, "the thirteenth column");
        String row = "abcdefghijkl";
        for (String thirteenth : new String[] {"a", "l", ".", "m"}) {
            faultDue(12, row + thirteenth);
            faultDue(12, row + thirteenth + ";");
            faultDue(14, "a;" + row + thirteenth + ";");
            faultDue(13 + 12, row + ";" + row + thirteenth + ";");
        }
        // A row's columns are counted anew behind each ; .
        faultDue(NONE, row + ";" + row + ";" + row + ";" + row + ";");
        faultDue(12, row);
    }

    private static void faultWithoutColumns() {
        DUE.sentence(5, "a ; without columns");
        faultDue(0, ";");
        faultDue(0, ";a;");
        faultDue(2, "a;;");
        faultDue(2, "a;;b;");
        faultDue(13, "abcdefghijkl;;");
        faultDue(10, "a;b;c;d;e;;");
        // A column without a mark is a column.
        faultDue(NONE, ".;");
    }

    private static void faultSeventhRow() {
        DUE.sentence(5, "the seventh row's first byte");
        for (int sign = 0; sign < 256; sign++) {
            faultDue(12, "a;b;c;d;e;f;" + (char) sign);
        }
        faultDue(12, "a;b;c;d;e;f;gh;");
        faultDue(59, "abcdefghi;abcdefghi;abcdefghi;abcdefghi;abcdefghi;abcdefgh;a");
    }

    private static void faultEnd() {
        DUE.sentence(5, "the end (how many bytes there are), if the last row has no ;");
        faultDue(1, "a");
        faultDue(1, ".");
        faultDue(12, "abcdefghijkl");
        faultDue(3, "a;b");
        faultDue(11, "a;b;c;d;e;f");
        faultDue(60, SIXTY.substring(0, 59) + "a");
        Calls x = with("a;b");
        x.due(3, "fault");
        x.due(4, "write", 1, ';');
        x.due(NONE, "fault");
    }

    private static void faultFirst() {
        DUE.sentence(5, "the place of the first byte that is not so");
        faultDue(1, "am;;");
        faultDue(0, ";m");
        faultDue(1, "az");
        faultDue(2, "a;;m");
        faultDue(4, "abcdm;abcdefghijklm;a;b;c;d;e;");
        faultDue(12, "abcdefghijkla;;");
    }

    private static void faultNone() {
        DUE.sentence(5, "FAULT. NONE.");
        faultDue(NONE, "");
        faultDue(NONE, "a;");
        faultDue(NONE, SIXTY);
        Calls x = with("a;;");
        x.due(2, "fault");
        x.due(3, "wipe");
        x.due(NONE, "fault");
    }

    private static void layLines() {
        DUE.sentence(6, "LAID by m LINES: how many rows. BAD (m)");
        Calls x = with("a;");
        x.beyond(BAD, "lay", 0, 1, 12, 1);
        x.due(1, "lay", 1);
        x.rowDue(0, 1, 1, 0);
        x.due(1, "lay", 12);
        x.rowDue(0, 1, 12, 0);
        // BAD comes ahead of NO.
        Calls y = with("a");
        y.beyond(BAD, "lay", 0, 1, 12, 1);
        y.due(NO, "lay", 1);
        // A m that is none is BAD without a text, too.
        new Calls(DUE).beyond(BAD, "lay", 0, 1, 12, 1);
    }

    private static void layEmpty() {
        DUE.sentence(6, "LAID by m LINES: how many rows (THE TEXT is empty)");
        Calls x = new Calls(DUE);
        x.call("row", 0, 3, 3, 0x012);
        for (int m = 1; m <= 12; m++) {
            x.due(0, "lay", m);
        }
        x.rowDue(0, 3, 3, 0x012);
    }

    private static void layRows() {
        DUE.sentence(6, "LAID by m LINES are its rows as ROWS 0, 1, .. of m LINES each");
        for (int rows = 1; rows <= 6; rows++) {
            Calls x = with("bb;cc;dd;ee;ff;gg;".substring(0, 3 * rows));
            for (int k = 0; k < 6; k++) {
                x.call("row", k, 1, 2, 1);
            }
            x.due(rows, "lay", 9);
            for (int k = 0; k < 6; k++) {
                if (k < rows) {
                    x.rowDue(k, 2, 9, (k + 1) * 17L);
                } else {
                    x.rowDue(k, 1, 2, 1);
                }
            }
            x.due(3 * rows, "count", 0);
        }
    }

    private static void layColumns() {
        DUE.sentence(6, "its rows as ROWS .. letters a to l (lines 0 to 11), . (none) .. of 1 to 12 columns each");
        Calls x = with("abcdefghijkl;lkjihgfedcba;............;.;l;a;");
        x.due(6, "lay", 12);
        x.rowDue(0, 12, 12, 0x0123456789ABL);
        x.rowDue(1, 12, 12, 0xBA9876543210L);
        x.rowDue(2, 12, 12, 0xFFFFFFFFFFFFL);
        x.rowDue(3, 1, 12, 0xF);
        x.rowDue(4, 1, 12, 0xB);
        x.rowDue(5, 1, 12, 0x0);
    }

    private static void layFault() {
        DUE.sentence(6, "NO: a FAULT");
        String[] faults = {"m;", "abcdefghijkla;", ";", "a;;", "a;b;c;d;e;f;a;", "a", "a;b", "a;b;c;d;e;f;;",
            "aA;", SIXTY.substring(0, 59) + "a"};
        for (String text : faults) {
            Calls x = with(text);
            x.call("row", 0, 2, 2, 0x01);
            x.due(NO, "lay", 12);
            x.due(NO, "lay", 1);
            x.rowDue(0, 2, 2, 0x01);
            x.rowDue(1, 1, 1, 0);
        }
    }

    private static void layBeyond() {
        DUE.sentence(6, "NO: .. a line beyond m");
        for (int m = 1; m <= 12; m++) {
            char last = (char) ('a' + m - 1);
            Calls x = with("a" + last + ";.a;" + last + ";");
            x.due(3, "lay", m);
            x.rowDue(2, 1, m, m - 1);
            if (m > 1) {
                x.due(NO, "lay", m - 1);
                x.rowDue(2, 1, m, m - 1);
                // The first byte alone may be it.
                with(last + "a;a;").due(NO, "lay", m - 1);
                with(last + ";").due(NO, "lay", m - 1);
                // The last column of the last row is looked at before the first is laid.
                Calls y = with("a;a;aaa" + last + ";");
                y.due(NO, "lay", m - 1);
                y.rowDue(0, 1, 1, 0);
            }
        }
        // A column without a mark has no line that could be beyond.
        with(".;").due(1, "lay", 1);
    }
}
