/**
 * Random runs of calls, each answered by the class and by a second, plain writing of the document, on
 * objects that are used for no more calls than the document allows.
 */
public final class NaiveModelTest {
    private static final int RUNS = 9000, WIDE_RUNS = 120;
    private static final int CALLS_MOST = 512, CALLS_OF_A_STEP = 60;
    private static int wrong = 0;
    private static int used = 0;
    private static long seed = 20261118;

    public static void main(String[] args) {
        for (int run = 0; run < RUNS && wrong < 20; run++) {
            oneRun(run);
        }
        // Wider tables cost the plain writing more, so there are fewer such runs.
        for (int run = 0; run < WIDE_RUNS && wrong < 20; run++) {
            oneWideRun(run);
        }
        for (int n = 1; n <= 8; n++) {
            due("pairs " + n, Naive.countPairs(n), new SignSquares().pairs(n));
        }
        System.out.println(wrong == 0 ? "both writings agree" : wrong + " answers differ");
        if (wrong != 0) {
            System.exit(1);
        }
    }

    /** An answer of the object: so each one is a call. */
    private static void due(String call, long want, long got) {
        used++;
        if (want != got) {
            wrong++;
            System.out.println(call + " answered " + got + ", due is " + want);
        }
    }

    /** A number of 0 .. below - 1. */
    private static int any(int below) {
        seed = seed * 6364136223846793005L + 1442695040888963407L;
        return (int) ((seed >>> 33) % below);
    }

    private static int oneOf(int... values) {
        return values[any(values.length)];
    }

    /** Mostly a number of 0 .. below - 1, at times one outside. */
    private static int near(int below) {
        return any(25) == 0 ? oneOf(-1, below, below + 1, Integer.MIN_VALUE, Integer.MAX_VALUE) : any(below);
    }

    private static void oneRun(int run) {
        SignSquares x = new SignSquares();
        Naive y = new Naive();
        used = 0;
        int size = 1 + any(6);
        for (int t = 0; t < 5; t++) {
            startTable(x, y, t, any(5) == 0 ? 1 + any(6) : size);
        }
        for (int r = 0; r < 4; r++) {
            startRow(x, y, r, any(5) == 0 ? any(25) : oneOf(1, 2, 3, 4, size));
        }
        steps("run " + run, x, y);
    }

    private static void oneWideRun(int run) {
        SignSquares x = new SignSquares();
        Naive y = new Naive();
        used = 0;
        for (int t = 0; t < 3; t++) {
            startTable(x, y, t, 7 + any(6));
        }
        steps("wide run " + run, x, y);
    }

    private static void steps(String run, SignSquares x, Naive y) {
        while (used + CALLS_OF_A_STEP <= CALLS_MOST && wrong < 20) {
            step(run + " behind " + used + " calls", x, y);
        }
    }

    /** A table of one of the kinds, or with any signs, or with any numbers. */
    private static void startTable(SignSquares x, Naive y, int t, int n) {
        int style = any(6);
        due("table", y.table(t, n), x.table(t, n));
        for (int i = 0; i < n; i++) {
            for (int j = 0; j < n; j++) {
                boolean graph = style < 2;
                if (graph && j > i) {
                    continue;
                }
                int v = graph && i == j ? 0 : style == 5 ? any(3) - 1 : oneOf(1, 1, -1);
                if (v != 1 || any(8) == 0) {
                    due("set", y.set(t, i, j, v, graph), x.set(t, i, j, v, graph));
                }
            }
        }
        if (style == 2) {
            int p = oneOf(3, 7);
            due("bordered", y.bordered(t, p), x.bordered(t, p));
        }
    }

    private static void startRow(SignSquares x, Naive y, int r, int n) {
        due("row", y.row(r, n), x.row(r, n));
        for (int i = 0; i < n; i++) {
            int v = any(60) == 0 ? oneOf(0, 2, -7) : oneOf(1, -1);
            due("lay", y.lay(r, i, v), x.lay(r, i, v));
        }
    }

    private static void step(String where, SignSquares x, Naive y) {
        int op = any(44);
        int t = near(any(3) == 0 ? 10 : 5);
        int u = near(any(3) == 0 ? 10 : 5);
        int r = near(any(3) == 0 ? 6 : 4);
        int s = near(any(3) == 0 ? 6 : 4);
        int a = near(6);
        int b = near(6);
        int bits = any(4) == 0 ? near(4097) : any(64);
        int moreBits = any(4) == 0 ? near(4097) : any(64);
        boolean flag = any(2) == 0;
        String call = where + " op " + op + " (" + t + " " + u + " " + r + " " + s + " " + a + " " + b
                + " " + bits + " " + moreBits + " " + flag + ")";
        int v = any(10) == 0 ? near(3) - 1 : any(3) - 1;
        if (op < 14) {
            firstCalls(call, x, y, new int[] {op, t, u, r, s, a, b, bits, moreBits, v}, flag);
        } else if (op < 30) {
            squareCalls(call, x, y, new int[] {op, t, u, r, s, a, b, bits, moreBits, v}, flag);
        } else {
            lastCalls(call, x, y, new int[] {op, t, u, r, s, a, b, bits, moreBits, v}, flag);
        }
        due(call + " asked", y.asked, x.asked());
        due(call + " worthTold", y.worthTold, x.worthTold());
        due(call + " upper", y.upper, x.upper());
        due(call + " lower", y.lower, x.lower());
        due(call + " finding", y.finding, x.finding());
        due(call + " digest", y.digest(), x.digest());
        int what = near(4);
        due(call + " count " + what, y.count(what), x.count(what));
        int f = near(6);
        due(call + " findings " + f, y.findings(f), x.findings(f));
    }

    private static void firstCalls(String call, SignSquares x, Naive y, int[] g, boolean flag) {
        int t = g[1], r = g[3], s = g[4], a = g[5], b = g[6], v = g[9];
        int n = any(30) == 0 ? near(25) : any(5);
        switch (g[0]) {
            case 0: due(call, y.row(r, n), x.row(r, n)); break;
            case 1: due(call, y.lay(r, a, v), x.lay(r, a, v)); break;
            case 2: if (any(4) == 0) { due(call, y.tear(r), x.tear(r)); } break;
            case 3: due(call, y.copy(r, a, s, b, n), x.copy(r, a, s, b, n)); break;
            case 4: due(call, y.mean(r), x.mean(r)); break;
            case 5: if (any(3) == 0) { due(call, y.table(t, n), x.table(t, n)); } break;
            case 6: due(call, y.put(t, a, r), x.put(t, a, r)); break;
            case 7: due(call, y.set(t, a, b, v, flag), x.set(t, a, b, v, flag)); break;
            case 8: if (any(4) == 0) { due(call, y.drop(t), x.drop(t)); } break;
            case 9: due(call, y.at(t, a, b), x.at(t, a, b)); break;
            case 10: due(call, y.told(t, a), x.told(t, a)); break;
            case 11: due(call, y.mark(t, a), x.mark(t, a)); break;
            case 12: if (validTable(t)) { startTable(x, y, t, 1 + any(6)); } break;
            default: if (r >= 0 && r < 6) { startRow(x, y, r, any(7)); } break;
        }
    }

    private static boolean validTable(int t) {
        return t >= 0 && t < 10;
    }

    private static void squareCalls(String call, SignSquares x, Naive y, int[] g, boolean flag) {
        int t = g[1], u = g[2], r = g[3], s = g[4], a = g[5], b = g[6], bits = g[7], more = g[8];
        int p = oneOf(3, 3, 5, 5, 7, 11, near(14));
        switch (g[0]) {
            case 14: due(call, y.times(t, u, a), x.times(t, u, a)); break;
            case 15: due(call, y.residues(t, p), x.residues(t, p)); break;
            case 16: due(call, y.bordered(t, p), x.bordered(t, p)); break;
            case 17: due(call, y.four(t, r, s, a, b), x.four(t, r, s, a, b)); break;
            case 18: due(call, y.turn(t, bits, more), x.turn(t, bits, more)); break;
            case 19: due(call, y.swap(t, flag, a, b), x.swap(t, flag, a, b)); break;
            case 20: due(call, y.flip(t), x.flip(t)); break;
            case 21: due(call, y.normal(t), x.normal(t)); break;
            case 22: due(call, y.worth(t), x.worth(t)); break;
            case 23: due(call, y.balanced(t), x.balanced(t)); break;
            case 24: due(call, y.common(t, bits), x.common(t, bits)); break;
            case 25: due(call, y.profile(t, a, more % 14), x.profile(t, a, more % 14)); break;
            case 26: due(call, y.mayBeLike(t, u), x.mayBeLike(t, u)); break;
            case 27: due(call, y.like(t, u), x.like(t, u)); break;
            case 28: due(call, y.excess(t), x.excess(t)); break;
            default: due(call, y.peak(t), x.peak(t)); break;
        }
    }

    private static void lastCalls(String call, SignSquares x, Naive y, int[] g, boolean flag) {
        int t = g[1], u = g[2], r = g[3], s = g[4], a = g[5], b = g[6], bits = g[7];
        int n = 1 + near(12);
        int number = any(20) == 0 ? near(14) : any(9) - 4;
        switch (g[0]) {
            case 30: due(call, y.block(t, a), x.block(t, a)); break;
            case 31: due(call, y.echo(r, a, flag), x.echo(r, a, flag)); break;
            case 32: due(call, y.side(r), x.side(r)); break;
            case 33: due(call, y.cancels(r, s, flag), x.cancels(r, s, flag)); break;
            case 34: due(call, y.leastSide(n, r), x.leastSide(n, r)); break;
            case 35: due(call, y.longer(r, s, a, b), x.longer(r, s, a, b)); break;
            case 36: due(call, y.switched(t, bits), x.switched(t, bits)); break;
            case 37: due(call, y.odd(t), x.odd(t)); break;
            case 38: due(call, y.alike(t, u), x.alike(t, u)); break;
            case 39: due(call, y.fewest(t), x.fewest(t)); break;
            case 40: due(call, y.even(t, a), x.even(t, a)); break;
            case 41: due(call, y.own(t, number), x.own(t, number)); break;
            case 42: due(call, y.form(t, a), x.form(t, a)); break;
            default: due(call, y.weight(t), x.weight(t)); break;
        }
    }
}
