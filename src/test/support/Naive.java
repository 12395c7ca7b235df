import java.math.BigInteger;
import java.util.Arrays;

/** The document, written with whole numbers and plain searches; null is missing. */
final class Naive {
    final int[][] rows = new int[6][];
    final int[][][] tables = new int[10][][];
    final int[] found = new int[6];
    int asked = 0, finding = 0;
    long worthTold = 0, upper = 0, lower = 1;

    int f(int which) {
        finding = which;
        found[which]++;
        return -3;
    }

    static boolean in(int v, int least, int most) {
        return v >= least && v <= most;
    }

    boolean r(int r) {
        return in(r, 0, 5);
    }

    boolean t(int t) {
        return in(t, 0, 9);
    }

    // -- kinds

    static int dot(int[] a, int[] b) {
        int sum = 0;
        for (int i = 0; i < a.length; i++) {
            sum += a[i] * b[i];
        }
        return sum;
    }

    static boolean signs(int[] a) {
        for (int v : a) {
            if (v != 1 && v != -1) {
                return false;
            }
        }
        return true;
    }

    static boolean signs(int[][] m) {
        for (int[] line : m) {
            if (!signs(line)) {
                return false;
            }
        }
        return true;
    }

    static boolean square(int[][] m) {
        boolean fine = signs(m);
        for (int i = 0; i < m.length; i++) {
            for (int j = 0; j < i; j++) {
                fine &= dot(m[i], m[j]) == 0;
            }
        }
        return fine;
    }

    static boolean round(int[][] m) {
        int n = m.length;
        for (int i = 0; i + 1 < n; i++) {
            for (int j = 0; j < n; j++) {
                if (m[i + 1][(j + 1) % n] != m[i][j]) {
                    return false;
                }
            }
        }
        return square(m);
    }

    static boolean graph(int[][] m) {
        for (int i = 0; i < m.length; i++) {
            for (int j = 0; j < m.length; j++) {
                if (i == j ? m[i][j] != 0 : m[i][j] == 0 || m[i][j] != m[j][i]) {
                    return false;
                }
            }
        }
        return true;
    }

    static int shared(int[][] m, int i, int j) {
        int many = 0;
        for (int k = 0; k < m.length; k++) {
            if (m[i][k] == -1 && m[j][k] == -1) {
                many++;
            }
        }
        return many;
    }

    /** The number that all pairs (joined, or not) have in common; -9: no pair; -99: not one number. */
    static int sharedByAll(int[][] m, int sign) {
        int all = -9;
        for (int i = 0; i < m.length; i++) {
            for (int j = i + 1; j < m.length; j++) {
                if (m[i][j] == sign) {
                    int here = shared(m, i, j);
                    all = all == -9 || all == here ? here : -99;
                }
                if (all == -99) {
                    return all;
                }
            }
        }
        return all;
    }

    static boolean even(int[][] m) {
        for (int i = 0; i < m.length; i++) {
            if (shared(m, i, i) != shared(m, 0, 0)) {
                return false;
            }
        }
        return graph(m) && sharedByAll(m, 1) != -99 && sharedByAll(m, -1) != -99;
    }

    static int kind(int[][] m) {
        return round(m) ? 2 : square(m) ? 1 : even(m) ? 4 : graph(m) ? 3 : 0;
    }

    // -- 1

    int row(int r, int n) {
        if (!r(r) || n > 24) { return -1; }
        if (n < 0) { return f(5); }
        rows[r] = new int[n];
        Arrays.fill(rows[r], 1);
        return n;
    }

    int lay(int r, int i, int v) {
        if (!r(r)) { return -1; }
        if (rows[r] == null) { return f(1); }
        if (!in(i, 0, rows[r].length - 1)) { return f(2); }
        asked = rows[r][i];
        rows[r][i] = v;
        return 1;
    }

    int tear(int r) {
        if (!r(r)) { return -1; }
        if (rows[r] == null) { return f(1); }
        rows[r] = null;
        return 1;
    }

    int copy(int r, int i, int to, int j, int n) {
        if (!r(r) || !r(to)) { return -1; }
        if (n < 0) { return f(5); }
        if (rows[r] == null || rows[to] == null) { return f(1); }
        if (i < 0 || j < 0 || (long) i + n > rows[r].length || (long) j + n > rows[to].length) { return f(2); }
        int[] taken = Arrays.copyOfRange(rows[r], i, i + n);
        for (int k = 0; k < n; k++) {
            rows[to][j + k] = taken[k];
        }
        return 1;
    }

    int mean(int r) {
        if (!r(r)) { return -1; }
        if (rows[r] == null) { return f(1); }
        if (rows[r].length == 0) { return f(4); }
        long sum = 0;
        for (int v : rows[r]) {
            sum += v;
        }
        asked = (int) (sum / rows[r].length);
        return 1;
    }

    int table(int t, int n) {
        if (!t(t) || !in(n, 1, 12)) { return -1; }
        tables[t] = new int[n][n];
        for (int[] line : tables[t]) {
            Arrays.fill(line, 1);
        }
        return kind(tables[t]);
    }

    int put(int t, int i, int r) {
        if (!t(t) || !r(r)) { return -1; }
        if (tables[t] == null || rows[r] == null) { return f(1); }
        if (!in(i, 0, tables[t].length - 1)) { return f(2); }
        if (rows[r].length != tables[t].length) { return f(5); }
        for (int v : rows[r]) {
            if (!in(v, -1, 1)) { return f(3); }
        }
        tables[t][i] = rows[r].clone();
        return kind(tables[t]);
    }

    int set(int t, int i, int j, int v, boolean both) {
        if (!t(t) || !in(v, -1, 1)) { return -1; }
        if (tables[t] == null) { return f(1); }
        int n = tables[t].length;
        if (!in(i, 0, n - 1) || !in(j, 0, n - 1)) { return f(2); }
        tables[t][i][j] = v;
        if (both) {
            tables[t][j][i] = v;
        }
        return kind(tables[t]);
    }

    int drop(int t) {
        if (!t(t)) { return -1; }
        if (tables[t] == null) { return f(1); }
        tables[t] = null;
        return 1;
    }

    int at(int t, int i, int j) {
        if (!t(t)) { return -1; }
        if (tables[t] == null) { return f(1); }
        int n = tables[t].length;
        if (!in(i, 0, n - 1) || !in(j, 0, n - 1)) { return f(2); }
        asked = tables[t][i][j];
        return 1;
    }

    int howMany(int[][] m, int v) {
        int many = 0;
        for (int[] line : m) {
            for (int number : line) {
                many += number == v ? 1 : 0;
            }
        }
        return many;
    }

    int told(int t, int what) {
        if (!t(t) || !in(what, 0, 4)) { return -1; }
        if (tables[t] == null) { return f(1); }
        int[][] m = tables[t];
        boolean normal = signs(m);
        for (int i = 0; i < m.length; i++) {
            normal &= m[0][i] == 1 && m[i][0] == 1;
        }
        int[] all = {kind(m), m.length, howMany(m, 1), howMany(m, -1), normal ? 1 : 0};
        asked = all[what];
        return 1;
    }

    int mark(int t, int kind) {
        if (!t(t) || !in(kind, 1, 4)) { return -1; }
        if (tables[t] == null) { return f(1); }
        int[][] m = tables[t];
        switch (kind) {
            case 1: return square(m) ? m.length / 2 : f(3);
            case 2: return round(m) ? Arrays.stream(m[0]).sum() : f(3);
            case 3: return graph(m) ? howMany(m, -1) / 2 : f(3);
            default: return even(m) ? shared(m, 0, 0) : f(3);
        }
    }

    // -- 2

    int times(int t, int u, int to) {
        if (!t(t) || !t(u) || !t(to)) { return -1; }
        if (tables[t] == null || tables[u] == null) { return f(1); }
        int k = tables[t].length, m = tables[u].length;
        if (k * m > 12) { return f(5); }
        int[][] all = new int[k * m][k * m];
        for (int a = 0; a < k; a++) {
            for (int b = 0; b < k; b++) {
                for (int c = 0; c < m; c++) {
                    for (int d = 0; d < m; d++) {
                        all[a * m + c][b * m + d] = tables[t][a][b] * tables[u][c][d];
                    }
                }
            }
        }
        tables[to] = all;
        return kind(all);
    }

    static int residue(int v, int p) {
        int less = Math.floorMod(v, p);
        for (int y = 1; y < p; y++) {
            if (y * y % p == less) {
                return 1;
            }
        }
        return less == 0 ? 0 : -1;
    }

    int residues(int t, int p) {
        if (!t(t) || p != 3 && p != 5 && p != 7 && p != 11) { return -1; }
        tables[t] = new int[p][p];
        for (int i = 0; i < p; i++) {
            for (int j = 0; j < p; j++) {
                tables[t][i][j] = residue(j - i, p);
            }
        }
        return kind(tables[t]);
    }

    int bordered(int t, int p) {
        if (!t(t) || p != 3 && p != 7 && p != 11) { return -1; }
        tables[t] = new int[p + 1][p + 1];
        for (int i = 0; i <= p; i++) {
            for (int j = 0; j <= p; j++) {
                tables[t][i][j] = i == 0 ? 1 : j == 0 ? -1 : i == j ? 1 : residue(j - i, p);
            }
        }
        return kind(tables[t]);
    }

    int four(int t, int a, int b, int c, int d) {
        if (!t(t) || !r(a) || !r(b) || !r(c) || !r(d)) { return -1; }
        int[][] parts = {rows[a], rows[b], rows[c], rows[d]};
        for (int[] part : parts) {
            if (part == null) { return f(1); }
        }
        int m = parts[0].length;
        for (int[] part : parts) {
            if (part.length != m || m == 0 || m > 3) { return f(5); }
        }
        for (int[] part : parts) {
            if (!signs(part)) { return f(3); }
            for (int i = 1; i < m; i++) {
                if (part[i] != part[m - i]) { return f(3); }
            }
        }
        for (int s = 1; s < m; s++) {
            int sum = 0;
            for (int[] part : parts) {
                sum += echo(part, s, true);
            }
            if (sum != 0) { return -4; }
        }
        int[][] which = {{1, 2, 3, 4}, {-2, 1, -4, 3}, {-3, 4, 1, -2}, {-4, -3, 2, 1}};
        tables[t] = new int[4 * m][4 * m];
        for (int i = 0; i < 4 * m; i++) {
            for (int j = 0; j < 4 * m; j++) {
                int w = which[i / m][j / m];
                tables[t][i][j] = Integer.signum(w) * parts[Math.abs(w) - 1][Math.floorMod(j % m - i % m, m)];
            }
        }
        return kind(tables[t]);
    }

    int turn(int t, int lines, int columns) {
        if (!t(t)) { return -1; }
        if (tables[t] == null) { return f(1); }
        int n = tables[t].length;
        if (!in(lines, 0, (1 << n) - 1) || !in(columns, 0, (1 << n) - 1)) { return -1; }
        for (int i = 0; i < n; i++) {
            for (int j = 0; j < n; j++) {
                tables[t][i][j] *= ((lines >> i & 1) == 1 ? -1 : 1) * ((columns >> j & 1) == 1 ? -1 : 1);
            }
        }
        return kind(tables[t]);
    }

    int swap(int t, boolean columns, int i, int j) {
        if (!t(t)) { return -1; }
        if (tables[t] == null) { return f(1); }
        int n = tables[t].length;
        if (!in(i, 0, n - 1) || !in(j, 0, n - 1)) { return f(2); }
        int[][] m = columns ? flipped(tables[t]) : tables[t];
        int[] kept = m[i];
        m[i] = m[j];
        m[j] = kept;
        tables[t] = columns ? flipped(m) : m;
        return kind(tables[t]);
    }

    static int[][] flipped(int[][] m) {
        int[][] other = new int[m.length][m.length];
        for (int i = 0; i < m.length; i++) {
            for (int j = 0; j < m.length; j++) {
                other[j][i] = m[i][j];
            }
        }
        return other;
    }

    int flip(int t) {
        if (!t(t)) { return -1; }
        if (tables[t] == null) { return f(1); }
        tables[t] = flipped(tables[t]);
        return kind(tables[t]);
    }

    static int makeNormal(int[][] m) {
        int turned = 0;
        for (int j = 0; j < m.length; j++) {
            if (m[0][j] == -1) {
                turned++;
                for (int[] line : m) {
                    line[j] = -line[j];
                }
            }
        }
        for (int[] line : m) {
            if (line[0] == -1) {
                turned++;
                for (int j = 0; j < m.length; j++) {
                    line[j] = -line[j];
                }
            }
        }
        return turned;
    }

    int normal(int t) {
        if (!t(t)) { return -1; }
        if (tables[t] == null) { return f(1); }
        if (!signs(tables[t])) { return f(3); }
        return makeNormal(tables[t]);
    }

    /** The sum over all orders, by sets of columns for the first rows, as a polynomial in x. */
    static long[] polynomial(int[][] m) {
        int n = m.length;
        long[][] sums = new long[1 << n][n + 1];
        sums[0][0] = 1;
        for (int set = 0; set < 1 << n; set++) {
            int i = Integer.bitCount(set);
            for (int j = 0; j < n && i < n; j++) {
                if ((set >> j & 1) == 1) {
                    continue;
                }
                // Each column already taken that lies behind this one is a pair out of order.
                int sign = Integer.bitCount(set >> j) % 2 == 0 ? 1 : -1;
                long[] next = sums[set | 1 << j];
                for (int k = 0; k <= n; k++) {
                    next[k] += sign * m[i][j] * sums[set][k];
                    if (i == j && k > 0) {
                        next[k] -= sign * sums[set][k - 1];
                    }
                }
            }
        }
        return sums[(1 << n) - 1];
    }

    int worth(int t) {
        if (!t(t)) { return -1; }
        if (tables[t] == null) { return f(1); }
        worthTold = polynomial(tables[t])[0];
        return 1;
    }

    int balanced(int t) {
        if (!t(t)) { return -1; }
        if (tables[t] == null) { return f(1); }
        int many = 0;
        for (int i = 0; i < tables[t].length; i++) {
            for (int j = 0; j < i; j++) {
                many += dot(tables[t][i], tables[t][j]) == 0 ? 1 : 0;
            }
        }
        return many;
    }

    static int common(int[][] m, int set) {
        int sum = 0;
        for (int j = 0; j < m.length; j++) {
            int product = 1;
            for (int i = 0; i < m.length; i++) {
                product *= (set >> i & 1) == 1 ? m[i][j] : 1;
            }
            sum += product;
        }
        return Math.abs(sum);
    }

    int common(int t, int set) {
        if (!t(t)) { return -1; }
        if (tables[t] == null) { return f(1); }
        if (!signs(tables[t])) { return f(3); }
        if (!in(set, 1, (1 << tables[t].length) - 1)) { return f(2); }
        return common(tables[t], set);
    }

    static int[] profile(int[][] m, int k) {
        int[] often = new int[13];
        for (int set = 0; set < 1 << m.length; set++) {
            if (Integer.bitCount(set) == k) {
                often[common(m, set)]++;
            }
        }
        return often;
    }

    int profile(int t, int k, int c) {
        if (!t(t) || !in(k, 2, 4) || !in(c, 0, 12)) { return -1; }
        if (tables[t] == null) { return f(1); }
        if (!signs(tables[t])) { return f(3); }
        return profile(tables[t], k)[c];
    }

    int mayBeLike(int t, int u) {
        if (!t(t) || !t(u)) { return -1; }
        if (tables[t] == null || tables[u] == null) { return f(1); }
        int[][] a = tables[t], b = tables[u];
        if (!signs(a) || !signs(b) || a.length != b.length) { return f(3); }
        for (int k = 2; k <= 4; k += 2) {
            if (!Arrays.equals(profile(a, k), profile(b, k))) { return 0; }
            if (!Arrays.equals(profile(flipped(a), k), profile(flipped(b), k))) { return 0; }
        }
        return 1;
    }

    int like(int t, int u) {
        if (!t(t) || !t(u)) { return -1; }
        if (tables[t] == null || tables[u] == null) { return f(1); }
        int[][] a = tables[t], b = tables[u];
        if (!signs(a) || !signs(b) || a.length != b.length) { return f(3); }
        if (a.length > 4) { return f(5); }
        int n = a.length;
        int orders = (int) Math.pow(n, n);
        for (int lines = 0; lines < orders; lines++) {
            for (int columns = 0; columns < orders; columns++) {
                if (order(lines, n) != null && order(columns, n) != null
                        && sameUpToSigns(a, b, order(lines, n), order(columns, n))) {
                    return 1;
                }
            }
        }
        return 0;
    }

    static int[] order(int code, int n) {
        int[] places = new int[n];
        int seen = 0;
        for (int i = 0; i < n; i++) {
            places[i] = code % n;
            seen |= 1 << code % n;
            code /= n;
        }
        return seen == (1 << n) - 1 ? places : null;
    }

    static boolean sameUpToSigns(int[][] a, int[][] b, int[] lines, int[] columns) {
        int n = a.length;
        int[][] quotient = new int[n][n];
        for (int i = 0; i < n; i++) {
            for (int j = 0; j < n; j++) {
                quotient[i][j] = a[lines[i]][columns[j]] * b[i][j];
            }
        }
        makeNormal(quotient);
        for (int[] line : quotient) {
            for (int v : line) {
                if (v != 1) {
                    return false;
                }
            }
        }
        return true;
    }

    static int[] signsOf(int bits, int n) {
        int[] signs = new int[n];
        for (int i = 0; i < n; i++) {
            signs[i] = (bits >> i & 1) == 1 ? -1 : 1;
        }
        return signs;
    }

    int excess(int t) {
        if (!t(t)) { return -1; }
        if (tables[t] == null) { return f(1); }
        int n = tables[t].length, best = -1;
        for (int bits = 0; bits < 1 << n; bits++) {
            int sum = 0;
            for (int[] line : tables[t]) {
                sum += Math.abs(dot(line, signsOf(bits, n)));
            }
            if (sum > best) {
                best = sum;
                asked = bits;
            }
        }
        return best;
    }

    int peak(int t) {
        if (!t(t)) { return -1; }
        if (tables[t] == null) { return f(1); }
        int n = tables[t].length, best = 99;
        for (int bits = 0; bits < 1 << n; bits++) {
            int most = 0;
            for (int[] line : tables[t]) {
                most = Math.max(most, Math.abs(dot(line, signsOf(bits, n))));
            }
            if (most < best) {
                best = most;
                asked = bits;
            }
        }
        return best;
    }

    int block(int t, int i) {
        if (!t(t)) { return -1; }
        if (tables[t] == null) { return f(1); }
        if (!square(tables[t])) { return f(3); }
        int n = tables[t].length;
        if (n < 4) { return f(5); }
        if (!in(i, 0, n - 2)) { return f(2); }
        int[][] m = flipped(flipped(tables[t]));
        makeNormal(m);
        int bits = 0;
        for (int j = 1; j < n; j++) {
            bits |= m[i + 1][j] == 1 ? 1 << (j - 1) : 0;
        }
        return bits;
    }

    // -- 3

    static int echo(int[] a, int s, boolean round) {
        int sum = 0;
        for (int i = 0; i < a.length; i++) {
            if (round || i + s < a.length) {
                sum += a[i] * a[(i + s) % a.length];
            }
        }
        return sum;
    }

    int echo(int r, int s, boolean round) {
        if (!r(r)) { return -1; }
        if (rows[r] == null) { return f(1); }
        if (rows[r].length == 0) { return f(5); }
        if (!signs(rows[r])) { return f(3); }
        if (!in(s, 0, rows[r].length - 1)) { return f(2); }
        asked = echo(rows[r], s, round);
        return 1;
    }

    static int side(int[] a) {
        int side = 0;
        for (int s = 1; s < a.length; s++) {
            side = Math.max(side, Math.abs(echo(a, s, false)));
        }
        return side;
    }

    int side(int r) {
        if (!r(r)) { return -1; }
        if (rows[r] == null) { return f(1); }
        if (rows[r].length == 0) { return f(5); }
        if (!signs(rows[r])) { return f(3); }
        return side(rows[r]);
    }

    static boolean cancel(int[] a, int[] b, boolean round) {
        for (int s = 1; s < a.length; s++) {
            if (echo(a, s, round) + echo(b, s, round) != 0) {
                return false;
            }
        }
        return true;
    }

    int cancels(int a, int b, boolean round) {
        if (!r(a) || !r(b)) { return -1; }
        if (rows[a] == null || rows[b] == null) { return f(1); }
        if (rows[a].length == 0 || rows[a].length != rows[b].length) { return f(5); }
        if (!signs(rows[a]) || !signs(rows[b])) { return f(3); }
        return cancel(rows[a], rows[b], round) ? 1 : 0;
    }

    static int countPairs(int n) {
        int many = 0;
        for (int a = 0; a < 1 << n; a++) {
            for (int b = 0; b < 1 << n; b++) {
                many += cancel(signsOf(a, n), signsOf(b, n), false) ? 1 : 0;
            }
        }
        return many;
    }

    int leastSide(int n, int to) {
        if (!in(n, 1, 12) || !r(to)) { return -1; }
        int least = 99;
        for (int bits = 0; bits < 1 << n; bits++) {
            int[] signs = signsOf(bits, n);
            if (side(signs) < least) {
                least = side(signs);
                rows[to] = signs;
            }
        }
        return least;
    }

    int longer(int a, int b, int to, int other) {
        if (!r(a) || !r(b) || !r(to) || !r(other) || to == other) { return -1; }
        if (rows[a] == null || rows[b] == null) { return f(1); }
        int n = rows[a].length;
        if (n == 0 || n != rows[b].length || 2 * n > 24) { return f(5); }
        if (!signs(rows[a]) || !signs(rows[b])) { return f(3); }
        if (!cancel(rows[a], rows[b], false)) { return -4; }
        int[] first = new int[2 * n], second = new int[2 * n];
        for (int i = 0; i < n; i++) {
            first[i] = rows[a][i];
            second[i] = rows[a][i];
            first[n + i] = rows[b][i];
            second[n + i] = -rows[b][i];
        }
        rows[to] = first;
        rows[other] = second;
        return 2 * n;
    }

    // -- 4

    static int[][] switchedBy(int[][] m, int set) {
        int[][] other = new int[m.length][m.length];
        for (int i = 0; i < m.length; i++) {
            for (int j = 0; j < m.length; j++) {
                other[i][j] = (set >> i & 1) != (set >> j & 1) ? -m[i][j] : m[i][j];
            }
        }
        return other;
    }

    int switched(int t, int set) {
        if (!t(t)) { return -1; }
        if (tables[t] == null) { return f(1); }
        if (!graph(tables[t])) { return f(3); }
        if (!in(set, 0, (1 << tables[t].length) - 1)) { return f(2); }
        tables[t] = switchedBy(tables[t], set);
        return kind(tables[t]);
    }

    static String oddOnes(int[][] m) {
        StringBuilder all = new StringBuilder();
        for (int i = 0; i < m.length; i++) {
            for (int j = i + 1; j < m.length; j++) {
                for (int k = j + 1; k < m.length; k++) {
                    all.append(m[i][j] * m[i][k] * m[j][k] == -1 ? "x" : ".");
                }
            }
        }
        return all.toString();
    }

    int odd(int t) {
        if (!t(t)) { return -1; }
        if (tables[t] == null) { return f(1); }
        if (!graph(tables[t])) { return f(3); }
        return oddOnes(tables[t]).replace(".", "").length();
    }

    int alike(int t, int u) {
        if (!t(t) || !t(u)) { return -1; }
        if (tables[t] == null || tables[u] == null) { return f(1); }
        int[][] a = tables[t], b = tables[u];
        if (!graph(a) || !graph(b) || a.length != b.length) { return f(3); }
        if (!oddOnes(a).equals(oddOnes(b))) { return 0; }
        for (int set = 0; set < 1 << a.length; set += 2) {
            if (Arrays.deepEquals(switchedBy(a, set), b)) {
                asked = set;
                return 1;
            }
        }
        return -77;
    }

    int fewest(int t) {
        if (!t(t)) { return -1; }
        if (tables[t] == null) { return f(1); }
        if (!graph(tables[t])) { return f(3); }
        int least = 999;
        for (int set = 0; set < 1 << tables[t].length; set += 2) {
            int edges = howMany(switchedBy(tables[t], set), -1) / 2;
            if (edges < least) {
                least = edges;
                asked = set;
            }
        }
        return least;
    }

    int even(int t, int what) {
        if (!t(t) || !in(what, 0, 3)) { return -1; }
        if (tables[t] == null) { return f(1); }
        int[][] m = tables[t];
        if (!even(m)) { return f(3); }
        return new int[] {m.length, shared(m, 0, 0), sharedByAll(m, -1), sharedByAll(m, 1)}[what];
    }

    /** A root counts as often as the polynomial and its derivatives, one after the other, are 0 there. */
    int own(int t, int x) {
        if (!t(t) || !in(x, -12, 12)) { return -1; }
        if (tables[t] == null) { return f(1); }
        long[] told = polynomial(tables[t]);
        BigInteger[] p = new BigInteger[told.length];
        for (int k = 0; k < told.length; k++) {
            p[k] = BigInteger.valueOf(told[k]);
        }
        int often = 0;
        while (valueAt(p, x).signum() == 0) {
            often++;
            for (int k = 0; k < p.length; k++) {
                p[k] = k + 1 < p.length ? p[k + 1].multiply(BigInteger.valueOf(k + 1)) : BigInteger.ZERO;
            }
        }
        return often;
    }

    static BigInteger valueAt(BigInteger[] p, int x) {
        BigInteger sum = BigInteger.ZERO;
        for (int k = 0; k < p.length; k++) {
            sum = sum.add(p[k].multiply(BigInteger.valueOf(x).pow(k)));
        }
        return sum;
    }

    int form(int t, int k) {
        if (!t(t) || k < 0) { return -1; }
        if (tables[t] == null) { return f(1); }
        if (k > tables[t].length) { return f(2); }
        worthTold = polynomial(tables[t])[k];
        return 1;
    }

    int weight(int t) {
        if (!t(t)) { return -1; }
        if (tables[t] == null) { return f(1); }
        int sum = howMany(tables[t], 1) - howMany(tables[t], -1);
        int n = tables[t].length;
        int shared = BigInteger.valueOf(sum).gcd(BigInteger.valueOf(n)).intValue();
        upper = sum / shared;
        lower = n / shared;
        return 1;
    }

    // -- 5

    int count(int what) {
        if (!in(what, 0, 3)) { return -1; }
        int many = 0;
        for (int[] row : rows) {
            many += what == 0 && row != null ? 1 : 0;
        }
        for (int[][] m : tables) {
            if (m != null) {
                many += what == 1 || what == 2 && square(m) || what == 3 && graph(m) ? 1 : 0;
            }
        }
        return many;
    }

    int findings(int f) {
        return in(f, 1, 5) ? found[f] : -1;
    }

    long digest() {
        long h = 17;
        for (int[][] m : tables) {
            if (m == null) {
                h = 31 * h - 1;
                continue;
            }
            h = 31 * h + kind(m);
            h = 31 * h + m.length;
            for (int[] line : m) {
                for (int v : line) {
                    h = 31 * h + v;
                }
            }
        }
        for (int[] row : rows) {
            h = 31 * h + (row == null ? -1 : row.length);
            for (int i = 0; row != null && i < row.length; i++) {
                h = 31 * h + row[i];
            }
        }
        return h;
    }
}
