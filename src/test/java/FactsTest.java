/**
 * What the document's sentences say of the answers among themselves (what stays, what must be so when
 * something else is so): here no second writing tells what is due, the calls tell it of one another.
 */
public final class FactsTest {
    private static int wrong = 0;
    private static long seed = 52;
    private static SignSquares x = new SignSquares();

    public static void main(String[] args) {
        squaresStaySquares();
        blocksShare();
        normalIsNormal();
        worthsOfProducts();
        worthsTurnedAndSwapped();
        excessIsReached();
        peakIsReached();
        likeOnesOfThree();
        foursThatFit();
        longerOnesCancel();
        pairsAreCounted();
        leastSides();
        oddTriplesStay();
        fewestIsReached();
        evenOnes();
        ownNumbers();
        System.out.println(wrong == 0 ? "all facts hold" : wrong + " facts do not hold");
        if (wrong != 0) {
            System.exit(1);
        }
    }

    // ---- helpers

    private static void begin() {
        x = new SignSquares();
    }

    private static void hold(String what, boolean holds) {
        if (!holds) {
            wrong++;
            if (wrong <= 20) {
                System.out.println("not so: " + what);
            }
        }
    }

    private static void due(String what, long want, long got) {
        hold(what + " is " + want + ", not " + got, want == got);
    }

    private static int any(int below) {
        seed = seed * 6364136223846793005L + 1442695040888963407L;
        return (int) ((seed >>> 33) % below);
    }

    private static int told(int t, int what) {
        due("told", 1, x.told(t, what));
        return x.asked();
    }

    private static long worthOf(int t) {
        due("worth", 1, x.worth(t));
        return x.worthTold();
    }

    /** A SQUARE of 1, 2, 4, 8 or 12, turned and in another order. */
    private static int anySquare(int t) {
        int style = any(6);
        if (style == 0) {
            x.table(t, 1);
        } else if (style < 3) {
            x.table(t, 2);
            x.set(t, 1, 1, -1, false);
            if (style == 2) {
                x.times(t, t, t);
            }
        } else {
            x.bordered(t, style == 3 ? 3 : style == 4 ? 7 : 11);
        }
        int n = told(t, 1);
        change(t, n, 6);
        return n;
    }

    private static void change(int t, int n, int times) {
        for (int k = 0; k < times; k++) {
            x.swap(t, k % 2 == 0, any(n), any(n));
            x.turn(t, any(1 << n), any(1 << n));
        }
    }

    private static void anyNumbers(int t, int n, int... numbers) {
        x.table(t, n);
        for (int i = 0; i < n; i++) {
            for (int j = 0; j < n; j++) {
                x.set(t, i, j, numbers[any(numbers.length)], false);
            }
        }
    }

    private static void anySigns(int t, int n) {
        anyNumbers(t, n, 1, -1);
    }

    private static void anyTable(int t, int n) {
        anyNumbers(t, n, 1, 0, -1);
    }

    private static void anyGraph(int t, int n) {
        x.table(t, n);
        for (int i = 0; i < n; i++) {
            x.set(t, i, i, 0, false);
            for (int j = 0; j < i; j++) {
                if (any(2) == 1) {
                    x.set(t, i, j, -1, true);
                }
            }
        }
    }

    private static void laySigns(int r, int n, int bits) {
        due("row", n, x.row(r, n));
        for (int i = 0; i < n; i++) {
            if ((bits >> i & 1) == 1) {
                due("lay", 1, x.lay(r, i, -1));
            }
        }
    }

    private static int bitsOfRow(int r, int n) {
        int bits = 0;
        for (int i = 0; i < n; i++) {
            x.lay(r, i, 1);
            int was = x.asked();
            hold("a sign", was == 1 || was == -1);
            x.lay(r, i, was);
            bits |= was == -1 ? 1 << i : 0;
        }
        return bits;
    }

    private static void square(String what, int kind) {
        hold(what + " is a SQUARE", kind == 1 || kind == 2);
    }

    // ---- squares

    private static void squaresStaySquares() {
        for (int round = 0; round < 200; round++) {
            begin();
            int n = anySquare(0);
            square("turned", x.turn(0, any(1 << n), any(1 << n)));
            square("in another order", x.swap(0, true, any(n), any(n)));
            square("flipped", x.flip(0));
            due("balanced pairs", n * (n - 1) / 2, x.balanced(0));
            due("rows agree", n / 2, x.mark(0, 1));
            long worth = worthOf(0);
            due("WORTH by itself, n by n", (long) Math.pow(n, n), worth * worth);
            int m = anySquare(1);
            if (n * m <= 12) {
                square("a product", x.times(0, 1, 2));
                due("n of a product", n * m, told(2, 1));
            }
        }
    }

    private static void blocksShare() {
        for (int round = 0; round < 60; round++) {
            begin();
            int n = anySquare(0);
            for (int i = 0; i < n - 1 && n >= 4; i++) {
                int block = x.block(0, i);
                due("how many in a BLOCK", n / 2 - 1, Integer.bitCount(block));
                hold("columns but column 0", block < 1 << (n - 1));
                if (i > 0) {
                    due("how many are shared", n / 4 - 1, Integer.bitCount(block & x.block(0, any(i))));
                }
            }
        }
    }

    private static void normalIsNormal() {
        for (int round = 0; round < 200; round++) {
            begin();
            int n = 1 + any(12);
            anySigns(0, n);
            int turned = x.normal(0);
            hold("turned at most all", turned >= 0 && turned < 2 * n);
            due("NORMAL", 1, told(0, 4));
            long digest = x.digest();
            due("nothing more to turn", 0, x.normal(0));
            due("nothing has changed", digest, x.digest());
        }
        for (int round = 0; round < 60; round++) {
            begin();
            int n = anySquare(0);
            int before = n >= 4 ? x.block(0, n - 2) : 0;
            x.normal(0);
            due("the BLOCK stays", before, n >= 4 ? x.block(0, n - 2) : 0);
        }
    }

    private static void worthsOfProducts() {
        for (int round = 0; round < 300; round++) {
            begin();
            int n = 1 + any(4);
            int m = 1 + any(12 / n);
            anyTable(0, n);
            anyTable(1, m);
            long due = 1;
            for (int k = 0; k < m; k++) {
                due *= worthOf(0);
            }
            for (int k = 0; k < n; k++) {
                due *= worthOf(1);
            }
            hold("a product comes", x.times(0, 1, 0) >= 0);
            due("WORTH of a product", due, worthOf(0));
        }
    }

    private static void worthsTurnedAndSwapped() {
        for (int round = 0; round < 300; round++) {
            begin();
            int n = 2 + any(11);
            anyTable(0, n);
            long worth = worthOf(0);
            x.flip(0);
            due("WORTH flipped", worth, worthOf(0));
            int lines = any(1 << n);
            int columns = any(1 << n);
            x.turn(0, lines, columns);
            worth *= (Integer.bitCount(lines) + Integer.bitCount(columns)) % 2 == 0 ? 1 : -1;
            due("WORTH turned", worth, worthOf(0));
            int i = any(n);
            x.swap(0, any(2) == 0, i, (i + 1) % n);
            due("WORTH in another order", -worth, worthOf(0));
            due("form 0", 1, x.form(0, 0));
            due("form 0 is WORTH", -worth, x.worthTold());
            x.form(0, n);
            due("the first coefficient", n % 2 == 0 ? 1 : -1, x.worthTold());
            hold("0 is an OWN NUMBER, if WORTH is 0", worth == 0 == x.own(0, 0) > 0);
        }
    }

    private static long sumOf(int t) {
        return told(t, 2) - told(t, 3);
    }

    private static int rowSum(int t, int n, int i) {
        int sum = 0;
        for (int j = 0; j < n; j++) {
            x.at(t, i, j);
            sum += x.asked();
        }
        return sum;
    }

    private static void excessIsReached() {
        for (int round = 0; round < 100; round++) {
            begin();
            int n = 1 + any(10);
            anyTable(0, n);
            int excess = x.excess(0);
            change(0, n, 3);
            due("EXCESS stays", excess, x.excess(0));
            x.turn(0, 0, x.asked());
            int lines = 0;
            for (int i = 0; i < n; i++) {
                lines |= rowSum(0, n, i) < 0 ? 1 << i : 0;
            }
            x.turn(0, lines, 0);
            due("EXCESS is reached", excess, sumOf(0));
            due("nothing more to turn", 0, x.excess(0) == excess ? x.asked() : -1);
        }
    }

    private static void peakIsReached() {
        for (int round = 0; round < 100; round++) {
            begin();
            int n = 1 + any(10);
            anyTable(0, n);
            int peak = x.peak(0);
            int columns = x.asked();
            x.turn(0, any(1 << n), columns);
            int greatest = 0;
            for (int i = 0; i < n; i++) {
                greatest = Math.max(greatest, Math.abs(rowSum(0, n, i)));
            }
            due("BEST PEAK is reached", peak, greatest);
            due("it is the best still", peak, x.peak(0));
            due("and by no signs", 0, x.asked());
        }
    }

    // ---- LIKE

    private static void likeOnesOfThree() {
        int[] kinds = kindsByChanges(3);
        for (int one = 0; one < 512; one++) {
            for (int other = one % 7; other < 512; other += 7) {
                begin();
                layCode(0, 3, one);
                layCode(1, 3, other);
                int like = x.like(0, 1);
                due("LIKE, " + one + " and " + other, kinds[one] == kinds[other] ? 1 : 0, like);
                hold("LIKE ones may be LIKE", like == 0 || x.mayBeLike(0, 1) == 1);
            }
        }
        for (int round = 0; round < 300; round++) {
            begin();
            int n = 1 + any(4);
            anySigns(0, n);
            x.table(1, 1);
            x.times(0, 1, 2);
            change(2, n, 3);
            due("LIKE, changed", 1, x.like(0, 2));
            due("LIKE, the other way", 1, x.like(2, 0));
            due("may be LIKE, changed", 1, x.mayBeLike(0, 2));
        }
    }

    private static void layCode(int t, int n, int code) {
        x.table(t, n);
        for (int place = 0; place < n * n; place++) {
            if ((code >> place & 1) == 1) {
                x.set(t, place / n, place % n, -1, false);
            }
        }
    }

    /** For each TABLE of signs the least code that is reached from it by changes, one after the other. */
    private static int[] kindsByChanges(int n) {
        int[] kinds = new int[1 << n * n];
        java.util.Arrays.fill(kinds, -1);
        for (int code = 0; code < kinds.length; code++) {
            if (kinds[code] < 0) {
                spread(kinds, n, code, code);
            }
        }
        return kinds;
    }

    private static void spread(int[] kinds, int n, int from, int kind) {
        java.util.ArrayDeque<Integer> open = new java.util.ArrayDeque<>();
        open.add(from);
        while (!open.isEmpty()) {
            int code = open.remove();
            if (kinds[code] >= 0) {
                continue;
            }
            kinds[code] = kind;
            for (int i = 0; i < n; i++) {
                open.add(code ^ line(n, i, true));
                open.add(code ^ line(n, i, false));
                open.add(exchanged(code, n, i, (i + 1) % n, true));
                open.add(exchanged(code, n, i, (i + 1) % n, false));
            }
        }
    }

    private static int line(int n, int i, boolean column) {
        int bits = 0;
        for (int j = 0; j < n; j++) {
            bits |= 1 << (column ? j * n + i : i * n + j);
        }
        return bits;
    }

    private static int exchanged(int code, int n, int i, int j, boolean column) {
        int other = code;
        for (int k = 0; k < n; k++) {
            int a = column ? k * n + i : i * n + k;
            int b = column ? k * n + j : j * n + k;
            if ((code >> a & 1) != (code >> b & 1)) {
                other ^= 1 << a | 1 << b;
            }
        }
        return other;
    }

    // ---- echoes

    private static void foursThatFit() {
        int made = 0;
        for (int m = 1; m <= 3; m++) {
            int all = 1 << m;
            for (int code = 0; code < all * all * all * all; code++) {
                begin();
                for (int r = 0, rest = code; r < 4; r++, rest /= all) {
                    laySigns(r, m, rest % all);
                }
                int answer = x.four(0, 0, 1, 2, 3);
                hold("refused, or a SQUARE", answer < 0 || answer == 1 || answer == 2);
                if (answer > 0) {
                    due("4 m by 4 m", 4 * m, told(0, 1));
                    made++;
                } else {
                    due("nothing came", 0, x.count(1));
                }
            }
        }
        hold("there are some", made > 0);
    }

    private static void longerOnesCancel() {
        for (int n = 1; n <= 8; n++) {
            for (int a = 0; a < 1 << n; a++) {
                begin();
                int b = any(1 << n);
                laySigns(0, n, a);
                laySigns(1, n, b);
                boolean cancel = x.cancels(0, 1, false) == 1;
                int answer = x.longer(0, 1, 2, 3);
                due("longer", cancel ? 2 * n : SignSquares.STATE, answer);
                if (cancel) {
                    due("the longer one CANCELS", 1, x.cancels(2, 3, false));
                    due("what CANCELS is TIDY round", 1, x.cancels(2, 3, true));
                }
                due("the other way round", cancel ? 1 : 0, x.cancels(1, 0, false));
            }
        }
    }

    private static void pairsAreCounted() {
        for (int n = 1; n <= 6; n++) {
            int pairs = 0;
            for (int a = 0; a < 1 << n; a++) {
                for (int b = 0; b < 1 << n; b++) {
                    begin();
                    laySigns(0, n, a);
                    laySigns(1, n, b);
                    pairs += x.cancels(0, 1, false);
                }
            }
            due("PAIRS of " + n, pairs, x.pairs(n));
        }
    }

    private static void leastSides() {
        for (int n = 1; n <= 12; n++) {
            begin();
            int least = x.leastSide(n, 5);
            due("SIDE of what came", least, x.side(5));
            int first = bitsOfRow(5, n);
            due("no more places", SignSquares.FINDING, x.lay(5, n, 1));
            for (int bits = 0; bits < 1 << n; bits++) {
                begin();
                laySigns(0, n, bits);
                int side = x.side(0);
                hold("none is less", side >= least);
                hold("none is ahead", side > least || bits >= first);
            }
        }
    }

    // ---- graphs

    private static void oddTriplesStay() {
        for (int round = 0; round < 300; round++) {
            begin();
            int n = 1 + any(12);
            anyGraph(0, n);
            x.table(1, 1);
            x.times(0, 1, 2);
            due("ALIKE a copy", 1, x.alike(0, 2));
            due("by no set", 0, x.asked());
            int odd = x.odd(0);
            int set = any(1 << n);
            int kind = x.switched(2, set);
            hold("a GRAPH still", kind == 3 || kind == 4);
            due("ODD triples stay", odd, x.odd(2));
            due("ALIKE by switching", 1, x.alike(0, 2));
            int found = x.asked();
            due("the set, or all but it", (set & 1) == 0 ? set : (1 << n) - 1 - set, found);
            x.switched(2, found);
            x.alike(0, 2);
            due("switched back", 0, x.asked());
            due("as many edges again", x.mark(0, 3), x.mark(2, 3));
            if (n >= 3) {
                changedEdge(n, odd);
            }
        }
    }

    /** With one edge changed all its triples change, so no switching leads there. */
    private static void changedEdge(int n, int odd) {
        int i = any(n);
        int j = (i + 1 + any(n - 1)) % n;
        x.at(2, i, j);
        x.set(2, i, j, -x.asked(), true);
        int asked = x.asked();
        due("not ALIKE", 0, x.alike(0, 2));
        due("nothing is told", asked, x.asked());
        hold("the triples of an edge", Math.abs(x.odd(2) - odd) <= n - 2);
    }

    private static void fewestIsReached() {
        for (int round = 0; round < 100; round++) {
            begin();
            int n = 1 + any(10);
            anyGraph(0, n);
            int fewest = x.fewest(0);
            int set = x.asked();
            hold("without node 0", (set & 1) == 0);
            hold("no more than there are", fewest <= x.mark(0, 3));
            x.switched(0, set);
            due("FEWEST is reached", fewest, x.mark(0, 3));
            due("it is the fewest still", fewest, x.fewest(0));
            due("by no set", 0, x.asked());
        }
    }

    /** In an EVEN GRAPH, walks of two steps from a node, counted in two ways. */
    private static void evenOnes() {
        int many = 0;
        for (int n = 1; n <= 5; n++) {
            for (int code = 0; code < 1 << n * (n - 1) / 2; code++) {
                begin();
                x.table(0, n);
                int rest = code;
                for (int i = 0; i < n; i++) {
                    x.set(0, i, i, 0, false);
                    for (int j = 0; j < i; j++, rest >>= 1) {
                        x.set(0, i, j, 1 - 2 * (rest & 1), true);
                    }
                }
                if (told(0, 0) == 4) {
                    many++;
                    evenOne(n);
                } else {
                    due("no EVEN one", SignSquares.FINDING, x.even(0, 0));
                }
            }
        }
        hold("there are some", many > 10);
    }

    private static void evenOne(int n) {
        due("n", n, x.even(0, 0));
        int each = x.even(0, 1);
        due("edges", n * each / 2, x.mark(0, 3));
        due("neighbours", each, x.mark(0, 4));
        int joined = x.even(0, 2);
        int others = x.even(0, 3);
        due("none are joined", each == 0 ? 1 : 0, joined == SignSquares.NONE ? 1 : 0);
        due("all are joined", each == n - 1 ? 1 : 0, others == SignSquares.NONE ? 1 : 0);
        if (each > 0 && each < n - 1) {
            due("walks of two steps", each * (each - joined - 1), (n - each - 1) * others);
        }
    }

    private static void ownNumbers() {
        for (int round = 0; round < 200; round++) {
            begin();
            int n = 1 + any(12);
            anyTable(0, n);
            long[] coefficients = new long[n + 1];
            for (int k = 0; k <= n; k++) {
                x.form(0, k);
                coefficients[k] = x.worthTold();
            }
            int together = 0;
            for (int v = -12; v <= 12; v++) {
                int often = x.own(0, v);
                together += often;
                long value = 0;
                for (int k = n; k >= 0; k--) {
                    value = value * v + coefficients[k];
                }
                hold("an OWN NUMBER is where the polynomial is 0", value == 0 == often > 0);
            }
            hold("n at most", together <= n);
        }
        for (int n = 1; n <= 12; n++) {
            begin();
            x.table(0, n);
            due("all 1: n once", 1, x.own(0, n));
            due("all 1: 0 else", n - 1, x.own(0, 0));
        }
    }
}
