/**
 * All small TABLES, GRAPHS, ROWS of SIGNS, not some of them: each call that they can be asked, answered
 * by the class and by the plain writing of the document.
 */
public final class EverySmallTest {
    private static int wrong = 0;
    private static SignSquares x = new SignSquares();
    private static Naive y = new Naive();

    public static void main(String[] args) {
        everyTable(1);
        everyTable(2);
        everyTable(3);
        everyPairOfSignTables(1);
        everyPairOfSignTables(2);
        for (int n = 1; n <= 5; n++) {
            everyGraph(n);
        }
        for (int n = 1; n <= 4; n++) {
            everyPairOfGraphs(n);
        }
        for (int n = 1; n <= 12; n++) {
            everyRow(n);
        }
        for (int n = 1; n <= 6; n++) {
            everyPairOfRows(n);
        }
        for (int m = 1; m <= 3; m++) {
            everyFour(m);
        }
        everyCopy();
        everyProduct();
        System.out.println(wrong == 0 ? "all small ones are as due" : wrong + " answers are not as due");
        if (wrong != 0) {
            System.exit(1);
        }
    }

    // ---- helpers

    private static void begin() {
        x = new SignSquares();
        y = new Naive();
    }

    private static void due(String call, long want, long got) {
        if (want != got) {
            wrong++;
            if (wrong <= 20) {
                System.out.println(call + " answered " + got + ", due is " + want);
            }
        }
    }

    private static void dueAndTold(String call, long want, long got) {
        due(call, want, got);
        due(call + ", asked()", y.asked, x.asked());
        due(call + ", worthTold()", y.worthTold, x.worthTold());
        due(call + ", finding()", y.finding, x.finding());
    }

    private static void dueAndChanged(String call, long want, long got) {
        due(call, want, got);
        due(call + ", digest()", y.digest(), x.digest());
    }

    /** A TABLE whose NUMBERS are told by the code, in digits of 3 or (signs alone) of 2. */
    private static void layTable(int t, int n, int code, int digits) {
        due("table", y.table(t, n), x.table(t, n));
        for (int place = 0; place < n * n; place++) {
            int v = new int[] {1, -1, 0}[code % digits];
            code /= digits;
            if (v != 1) {
                due("set", y.set(t, place / n, place % n, v, false), x.set(t, place / n, place % n, v, false));
            }
        }
    }

    private static void layGraph(int t, int n, int code) {
        due("table", y.table(t, n), x.table(t, n));
        for (int i = 0; i < n; i++) {
            due("set", y.set(t, i, i, 0, true), x.set(t, i, i, 0, true));
            for (int j = 0; j < i; j++) {
                if ((code & 1) == 1) {
                    due("set", y.set(t, i, j, -1, true), x.set(t, i, j, -1, true));
                }
                code >>= 1;
            }
        }
    }

    private static void laySigns(int r, int n, int bits) {
        due("row", y.row(r, n), x.row(r, n));
        for (int i = 0; i < n; i++) {
            if ((bits >> i & 1) == 1) {
                due("lay", y.lay(r, i, -1), x.lay(r, i, -1));
            }
        }
    }

    private static int power(int base, int times) {
        return times == 0 ? 1 : base * power(base, times - 1);
    }

    // ---- tables

    private static void everyTable(int n) {
        for (int code = 0; code < power(3, n * n) && wrong < 20; code++) {
            String which = "TABLE " + code + " of " + n;
            begin();
            layTable(0, n, code, 3);
            askTable(which, n);
            askGraph(which);
            askPolynomial(which, n);
            changeTable(which, n, code);
        }
    }

    private static void askTable(String which, int n) {
        for (int what = 0; what <= 4; what++) {
            dueAndTold(which + " told " + what, y.told(0, what), x.told(0, what));
        }
        for (int kind = 1; kind <= 4; kind++) {
            due(which + " mark " + kind, y.mark(0, kind), x.mark(0, kind));
        }
        due(which + " balanced", y.balanced(0), x.balanced(0));
        for (int set = 0; set <= 1 << n; set++) {
            due(which + " common " + set, y.common(0, set), x.common(0, set));
        }
        for (int k = 2; k <= 4; k++) {
            for (int c = 0; c <= n + 1; c++) {
                due(which + " profile " + k + " " + c, y.profile(0, k, c), x.profile(0, k, c));
            }
        }
        dueAndTold(which + " excess", y.excess(0), x.excess(0));
        dueAndTold(which + " peak", y.peak(0), x.peak(0));
        dueAndTold(which + " block", y.block(0, 0), x.block(0, 0));
        due(which + " weight", y.weight(0), x.weight(0));
        due(which + " upper", y.upper, x.upper());
        due(which + " lower", y.lower, x.lower());
        for (int what = 0; what <= 3; what++) {
            due(which + " count " + what, y.count(what), x.count(what));
        }
    }

    private static void askGraph(String which) {
        dueAndTold(which + " odd", y.odd(0), x.odd(0));
        dueAndTold(which + " fewest", y.fewest(0), x.fewest(0));
        for (int what = 0; what <= 3; what++) {
            due(which + " even " + what, y.even(0, what), x.even(0, what));
        }
        dueAndTold(which + " alike itself", y.alike(0, 0), x.alike(0, 0));
    }

    private static void askPolynomial(String which, int n) {
        dueAndTold(which + " worth", y.worth(0), x.worth(0));
        for (int k = 0; k <= n + 1; k++) {
            dueAndTold(which + " form " + k, y.form(0, k), x.form(0, k));
        }
        for (int v = -n - 1; v <= n + 1; v++) {
            due(which + " own " + v, y.own(0, v), x.own(0, v));
        }
    }

    /** One change after the other: what they are is told by the code, so all come up often. */
    private static void changeTable(String which, int n, int code) {
        dueAndChanged(which + " flip", y.flip(0), x.flip(0));
        int lines = code % (1 << n);
        int columns = code / 7 % (1 << n);
        dueAndChanged(which + " turn", y.turn(0, lines, columns), x.turn(0, lines, columns));
        int i = code % n;
        int j = code / 5 % n;
        dueAndChanged(which + " swap rows", y.swap(0, false, i, j), x.swap(0, false, i, j));
        dueAndChanged(which + " swap columns", y.swap(0, true, j, i), x.swap(0, true, j, i));
        dueAndChanged(which + " switched", y.switched(0, lines), x.switched(0, lines));
        dueAndChanged(which + " normal", y.normal(0), x.normal(0));
    }

    private static void everyPairOfSignTables(int n) {
        int all = power(2, n * n);
        for (int one = 0; one < all && wrong < 20; one++) {
            for (int other = 0; other < all; other++) {
                begin();
                layTable(0, n, one, 2);
                layTable(1, n, other, 2);
                String which = "TABLES " + one + " and " + other + " of " + n;
                due(which + " like", y.like(0, 1), x.like(0, 1));
                due(which + " mayBeLike", y.mayBeLike(0, 1), x.mayBeLike(0, 1));
            }
        }
    }

    private static void everyProduct() {
        for (int one = 0; one < 81 && wrong < 20; one++) {
            for (int other = 0; other < 81; other++) {
                begin();
                layTable(0, 2, one, 3);
                layTable(1, 2, other, 3);
                int to = (one + other) % 3;
                dueAndChanged("times " + one + " " + other, y.times(0, 1, to), x.times(0, 1, to));
            }
        }
    }

    // ---- graphs

    private static void everyGraph(int n) {
        for (int code = 0; code < 1 << n * (n - 1) / 2 && wrong < 20; code++) {
            String which = "GRAPH " + code + " of " + n;
            begin();
            layGraph(0, n, code);
            due(which + " mark 3", y.mark(0, 3), x.mark(0, 3));
            due(which + " mark 4", y.mark(0, 4), x.mark(0, 4));
            askGraph(which);
            for (int set = 0; set <= 1 << n; set++) {
                dueAndChanged(which + " switched " + set, y.switched(0, set), x.switched(0, set));
            }
        }
    }

    private static void everyPairOfGraphs(int n) {
        int all = 1 << n * (n - 1) / 2;
        for (int one = 0; one < all && wrong < 20; one++) {
            for (int other = 0; other < all; other++) {
                begin();
                layGraph(0, n, one);
                layGraph(1, n, other);
                dueAndTold("alike " + one + " " + other + " of " + n, y.alike(0, 1), x.alike(0, 1));
            }
        }
    }

    // ---- rows

    private static void everyRow(int n) {
        for (int bits = 0; bits < 1 << n && wrong < 20; bits++) {
            begin();
            laySigns(0, n, bits);
            for (int s = 0; s <= n; s++) {
                dueAndTold("echo " + bits + " of " + n + " at " + s, y.echo(0, s, false), x.echo(0, s, false));
                dueAndTold("round echo " + bits + " of " + n + " at " + s, y.echo(0, s, true), x.echo(0, s, true));
            }
            due("side " + bits + " of " + n, y.side(0), x.side(0));
            dueAndTold("mean " + bits + " of " + n, y.mean(0), x.mean(0));
        }
    }

    private static void everyPairOfRows(int n) {
        for (int a = 0; a < 1 << n && wrong < 20; a++) {
            for (int b = 0; b < 1 << n; b++) {
                begin();
                laySigns(0, n, a);
                laySigns(1, n, b);
                String which = a + " and " + b + " of " + n;
                due("cancels " + which, y.cancels(0, 1, false), x.cancels(0, 1, false));
                due("cancels round " + which, y.cancels(0, 1, true), x.cancels(0, 1, true));
                int to = (a + b) % 4;
                int other = (a + b + 1) % 4;
                dueAndChanged("longer " + which, y.longer(0, 1, to, other), x.longer(0, 1, to, other));
            }
        }
    }

    private static void everyFour(int m) {
        int all = 1 << m;
        for (int code = 0; code < all * all * all * all && wrong < 20; code++) {
            begin();
            laySigns(0, m, code % all);
            laySigns(1, m, code / all % all);
            laySigns(2, m, code / all / all % all);
            laySigns(3, m, code / all / all / all);
            dueAndChanged("four " + code + " of " + m, y.four(7, 0, 1, 2, 3), x.four(7, 0, 1, 2, 3));
            due("four " + code + " of " + m + ", finding()", y.finding, x.finding());
        }
    }

    private static void everyCopy() {
        for (int i = -1; i <= 5; i++) {
            for (int j = -1; j <= 5; j++) {
                for (int n = -1; n <= 5; n++) {
                    oneCopy(i, j, n, 0);
                    oneCopy(i, j, n, 1);
                    oneCopy(i, j, n, 2);
                }
            }
        }
    }

    private static void oneCopy(int i, int j, int n, int to) {
        begin();
        due("row", y.row(0, 4), x.row(0, 4));
        due("row", y.row(1, 3), x.row(1, 3));
        for (int place = 0; place < 4; place++) {
            due("lay", y.lay(0, place, 10 + place), x.lay(0, place, 10 + place));
        }
        String which = "copy " + i + " to " + to + " " + j + ", " + n;
        dueAndChanged(which, y.copy(0, i, to, j, n), x.copy(0, i, to, j, n));
        due(which + ", finding()", y.finding, x.finding());
    }
}
