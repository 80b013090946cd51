import java.util.Random;

/** Long runs of drawn calls on LeanMarks and on PlainMarks: every answer and all that can be asked is the same. */
public final class AgainstPlainTest {
    private static final Due DUE = new Due("AgainstPlainTest");
    private static final int RUNS = 400;
    private static final int CALLS = 512;

    private final Random random;
    private LeanMarks x = new LeanMarks();
    private PlainMarks p = new PlainMarks();

    private AgainstPlainTest(long seed) {
        random = new Random(seed);
    }

    public static void main(String[] args) {
        for (int run = 0; run < RUNS && !DUE.anyWrong(); run++) {
            AgainstPlainTest test = new AgainstPlainTest(run);
            for (int call = 0; call < CALLS; call++) {
                test.drawnCall(run);
            }
            test.sameState(run);
        }
        DUE.end();
    }

    /** Mostly a number from low to high, now and then one just beyond or far away. */
    private int draw(int low, int high) {
        int way = random.nextInt(60);
        if (way == 0) {
            return random.nextBoolean() ? low - 1 : high + 1;
        }
        if (way == 1) {
            int[] far = {Integer.MIN_VALUE, Integer.MAX_VALUE, low - 13, high + 17, random.nextInt()};
            return far[random.nextInt(far.length)];
        }
        return low + random.nextInt(high - low + 1);
    }

    private int row() {
        return draw(0, 5);
    }

    private long drawnMarks(int n, int m) {
        if (random.nextInt(30) == 0) {
            return random.nextLong() >> random.nextInt(64);
        }
        boolean square = random.nextInt(3) == 0;
        int empty = random.nextInt(4) == 0 ? 2 : 8;
        long packed = 0;
        int shift = random.nextInt(12);
        int step = 1 + random.nextInt(11);
        for (int i = 0; i < n && i < 12; i++) {
            int y = m < 1 ? 0 : square ? Math.floorMod(i * step + shift, m) : random.nextInt(Math.min(m, 13));
            packed = packed << 4 | (random.nextInt(empty) == 0 && !square ? 15 : y & 15);
        }
        return packed;
    }

    private long drawnBytes() {
        long v = random.nextInt(4) == 0 ? random.nextLong() : 0;
        boolean short1 = random.nextBoolean();
        for (int i = 0; i < 8; i++) {
            int way = random.nextInt(short1 ? 3 : 9);
            int sign = way == 0 ? ';' : way == 1 ? '.' : 'a' + random.nextInt(random.nextInt(40) == 0 ? 14 : 12);
            v = v << 8 | (random.nextInt(200) == 0 ? random.nextInt(256) : sign);
        }
        return v;
    }

    private int index(int usual) {
        return random.nextInt(3) == 0 ? draw(-1, 0) : draw(-1, usual);
    }

    private void same(int run, int promise, String call, long got, long want) {
        DUE.is(promise, "run " + run + ": " + call, got, want);
    }

    private void drawnCall(int run) {
        int call = random.nextInt(36);
        if (call < 14) {
            rowsCall(run, call);
        } else if (call < 22) {
            searchedCall(run, call);
        } else {
            madeOrHeardCall(run, call);
        }
    }

    private void rowsCall(int run, int call) {
        int a = row();
        int b = draw(0, 13);
        int c = draw(0, 1);
        switch (call) {
            case 0, 1 -> {
                int n = draw(1, 12);
                int m = random.nextBoolean() ? n : draw(1, 12);
                long v = drawnMarks(n, m);
                same(run, 2, "row(" + a + ", " + n + ", " + m + ", " + v + ")", x.row(a, n, m, v), p.row(a, n, m, v));
            }
            case 2, 3 -> {
                int n = draw(1, 8);
                long v = drawnBytes();
                same(run, 3, "write(" + n + ", " + v + ")", x.write(n, v), p.write(n, v));
            }
            case 4 -> {
                if (random.nextInt(3) == 0) {
                    same(run, 4, "wipe()", x.wipe(), p.wipe());
                }
            }
            case 5 -> same(run, 5, "fault()", x.fault(), p.fault());
            case 6, 7 -> {
                int m = random.nextInt(3) == 0 ? draw(1, 12) : 12;
                same(run, 6, "lay(" + m + ")", x.lay(m), p.lay(m));
            }
            case 8 -> same(run, 7, "told(" + a + ", " + b + ")", x.told(a, b), p.told(a, b));
            case 9 -> same(run, 8, "marks(" + a + ")", x.marks(a), p.marks(a));
            case 10 -> {
                int column = draw(0, 11);
                int d = draw(1, 11);
                same(run, 9, "difference(" + a + ", " + column + ", " + d + ", " + c + ")",
                    x.difference(a, column, d, c), p.difference(a, column, d, c));
            }
            case 11 -> {
                int what = draw(0, 2);
                same(run, 10, "quarrels(" + a + ", " + c + ", " + what + ")",
                    x.quarrels(a, c, what), p.quarrels(a, c, what));
            }
            case 12 -> {
                int under = row();
                int dx = draw(-12, 12);
                int dy = draw(-12, 12);
                boolean round = random.nextBoolean();
                same(run, 11, "hits(" + a + ", " + under + ", " + dx + ", " + dy + ", " + round + ")",
                    x.hits(a, under, dx, dy, round), p.hits(a, under, dx, dy, round));
            }
            default -> {
                int under = random.nextBoolean() ? a : row();
                int what = draw(0, 3);
                same(run, 12, "most(" + a + ", " + under + ", " + what + ")",
                    x.most(a, under, what), p.most(a, under, what));
            }
        }
    }

    private void searchedCall(int run, int call) {
        int a = row();
        int o = row();
        int kind = draw(0, 1);
        switch (call) {
            case 14, 15 -> {
                int n = draw(1, 8);
                int i = index(n < 5 ? 10 : 450);
                same(run, 13, "squares(" + n + ", " + i + ", " + a + ")", x.squares(n, i, a), p.squares(n, i, a));
            }
            case 16, 17, 18 -> {
                int i = index(20);
                same(run, 14, "holding(" + a + ", " + i + ", " + o + ")", x.holding(a, i, o), p.holding(a, i, o));
            }
            case 19 -> {
                int n = draw(1, 6);
                int q = draw(0, 20);
                same(run, 15, "nearly(" + n + ", " + q + ")", x.nearly(n, q), p.nearly(n, q));
            }
            case 20 -> {
                int n = draw(1, 8);
                int m = draw(1, 6);
                int i = index(n < 4 ? 50 : 3000);
                same(run, 16, "rows(" + n + ", " + m + ", " + kind + ", " + i + ", " + a + ")",
                    x.rows(n, m, kind, i, a), p.rows(n, m, kind, i, a));
            }
            default -> {
                int m = draw(1, 4);
                same(run, 17, "longest(" + m + ", " + kind + ")", x.longest(m, kind), p.longest(m, kind));
            }
        }
    }

    private void madeOrHeardCall(int run, int call) {
        int a = row();
        int[] primes = {3, 5, 7, 11, 13};
        int prime = random.nextInt(8) == 0 ? draw(2, 14) : primes[random.nextInt(5)];
        int g = draw(2, Math.max(2, prime - 1));
        switch (call) {
            case 22 -> {
                int s = draw(0, Math.max(0, prime - 2));
                same(run, 18, "powers(" + prime + ", " + g + ", " + s + ", " + a + ")",
                    x.powers(prime, g, s, a), p.powers(prime, g, s, a));
            }
            case 23 -> {
                int h = draw(2, Math.max(2, prime - 1));
                same(run, 19, "sums(" + prime + ", " + g + ", " + h + ", " + a + ")",
                    x.sums(prime, g, h, a), p.sums(prime, g, h, a));
            }
            case 24 -> {
                int t = draw(0, 7);
                same(run, 20, "turn(" + a + ", " + t + ")", x.turn(a, t), p.turn(a, t));
            }
            case 25 -> same(run, 21, "like(" + a + ")", x.like(a), p.like(a));
            case 26, 27 -> {
                int c = draw(0, 3);
                boolean on = random.nextBoolean();
                same(run, 22, "corner(" + a + ", " + c + ", " + on + ")", x.corner(a, c, on), p.corner(a, c, on));
            }
            case 28, 29, 30, 31 -> {
                int column = random.nextBoolean() ? draw(0, 30) : draw(3, 9);
                int line = random.nextBoolean() ? draw(-20, 20) : draw(-3, 3);
                same(run, 23, "hear(" + column + ", " + line + ")", x.hear(column, line), p.hear(column, line));
            }
            case 32 -> {
                if (random.nextInt(8) == 0) {
                    same(run, 24, "still()", x.still(), p.still());
                }
            }
            case 33 -> {
                int what = draw(0, 2);
                same(run, 25, "found(" + a + ", " + what + ")", x.found(a, what), p.found(a, what));
            }
            case 34 -> {
                int what = draw(0, 1);
                same(run, 26, "among(" + what + ")", x.among(what), p.among(what));
            }
            default -> {
                int what = draw(0, 3);
                same(run, 27, "count(" + what + ")", x.count(what), p.count(what));
            }
        }
    }

    private void sameState(int run) {
        for (int k = 0; k < 6; k++) {
            for (int what = 0; what < 14; what++) {
                same(run, 7, "at the end told(" + k + ", " + what + ")", x.told(k, what), p.told(k, what));
            }
            same(run, 8, "at the end marks(" + k + ")", x.marks(k), p.marks(k));
        }
        for (int what = 0; what < 4; what++) {
            same(run, 27, "at the end count(" + what + ")", x.count(what), p.count(what));
        }
    }
}
