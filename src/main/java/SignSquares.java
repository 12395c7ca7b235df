/** Tables of signs that balance, rows of signs and their echoes, graphs told by signs. */
public final class SignSquares {
    public static final int BAD = -1, FULL = -2, FINDING = -3, STATE = -4, SPENT = -6, NONE = -9;

    private static final int NOTHING = 1, BEYOND = 2, UNLIKE = 3, NOUGHT = 4, SIZE = 5;
    private static final int ANY = 0, SQUARE = 1, ROUND = 2, GRAPH = 3, EVEN = 4;
    private static final int ROWS = 6, ROW_MOST = 24, TABLES = 10, TABLE_MOST = 12;
    private static final int PAIRS_MOST = 8, LEAST_SIDE_MOST = 12, LIKE_MOST = 4, ROUNDS_MOST = 3;

    /** Rows 0, 1, 2, 3 in two bits each, the first the lowest. */
    private static final int ORDER_AS_IT_IS = 0b11100100;

    /** Which of A, B, C, D stands in each part of the four by four, and its sign. */
    private static final int[] FOUR_PARTS = {0, 1, 2, 3, 1, 0, 3, 2, 2, 3, 0, 1, 3, 2, 1, 0};
    private static final int[] FOUR_SIGNS = {1, 1, 1, 1, -1, 1, -1, 1, -1, 1, 1, -1, -1, -1, 1, 1};

    private final Row[] rows = new Row[ROWS];
    private final Table[] tables = new Table[TABLES];

    // All calls share one room, so what a call needs for a while is made once, here.
    private final Table work = new Table();
    private final Table otherWork = new Table();
    private final Polynomial polynomial = new Polynomial();
    private final int[] tally = new int[TABLE_MOST + 1];
    private final long[] echoKeys = new long[1 << (PAIRS_MOST - 1)];

    private final int[] findingCounts = new int[SIZE + 1];
    private int latestFinding = 0;
    private int latestAsked = 0;
    private long latestWorth = 0;
    private long latestUpper = 0;
    private long latestLower = 1;

    public SignSquares() {
        for (int r = 0; r < ROWS; r++) {
            rows[r] = new Row();
        }
        for (int t = 0; t < TABLES; t++) {
            tables[t] = new Table();
        }
    }

    // ---- 1 rows, tables

    public int row(int r, int n) {
        if (!isRowNumber(r) || n > ROW_MOST) {
            return BAD;
        }
        if (n < 0) {
            return found(SIZE);
        }
        rows[r].beginSigns(n, 0);
        return n;
    }

    public int lay(int r, int i, int v) {
        if (!isRowNumber(r)) {
            return BAD;
        }
        Row row = rows[r];
        if (row.isMissing()) {
            return found(NOTHING);
        }
        if (!row.hasPlaces(i, 1)) {
            return found(BEYOND);
        }
        latestAsked = row.ints[i];
        row.ints[i] = v;
        return 1;
    }

    public int tear(int r) {
        if (!isRowNumber(r)) {
            return BAD;
        }
        if (rows[r].isMissing()) {
            return found(NOTHING);
        }
        rows[r].end();
        return 1;
    }

    public int copy(int r, int i, int to, int j, int n) {
        if (!isRowNumber(r) || !isRowNumber(to)) {
            return BAD;
        }
        if (n < 0) {
            return found(SIZE);
        }
        Row from = rows[r];
        Row other = rows[to];
        if (from.isMissing() || other.isMissing()) {
            return found(NOTHING);
        }
        if (!from.hasPlaces(i, n) || !other.hasPlaces(j, n)) {
            return found(BEYOND);
        }
        System.arraycopy(from.ints, i, other.ints, j, n);
        return 1;
    }

    public int mean(int r) {
        if (!isRowNumber(r)) {
            return BAD;
        }
        Row row = rows[r];
        if (row.isMissing()) {
            return found(NOTHING);
        }
        if (row.size == 0) {
            return found(NOUGHT);
        }
        latestAsked = (int) (row.sum() / row.size);
        return 1;
    }

    public int table(int t, int n) {
        if (!isTableNumber(t) || n < 1 || n > TABLE_MOST) {
            return BAD;
        }
        tables[t].begin(n);
        return tables[t].judged();
    }

    public int put(int t, int i, int r) {
        if (!isTableNumber(t) || !isRowNumber(r)) {
            return BAD;
        }
        Table table = tables[t];
        Row row = rows[r];
        if (table.isMissing() || row.isMissing()) {
            return found(NOTHING);
        }
        if (!table.hasLine(i)) {
            return found(BEYOND);
        }
        if (row.size != table.n) {
            return found(SIZE);
        }
        if (!row.isNumbers()) {
            return found(UNLIKE);
        }
        for (int j = 0; j < table.n; j++) {
            table.write(i, j, row.ints[j]);
        }
        return table.judged();
    }

    public int set(int t, int i, int j, int v, boolean both) {
        if (!isTableNumber(t) || v < -1 || v > 1) {
            return BAD;
        }
        Table table = tables[t];
        if (table.isMissing()) {
            return found(NOTHING);
        }
        if (!table.hasLine(i) || !table.hasLine(j)) {
            return found(BEYOND);
        }
        table.write(i, j, v);
        if (both) {
            table.write(j, i, v);
        }
        return table.judged();
    }

    public int drop(int t) {
        if (!isTableNumber(t)) {
            return BAD;
        }
        if (tables[t].isMissing()) {
            return found(NOTHING);
        }
        tables[t].end();
        return 1;
    }

    public int at(int t, int i, int j) {
        if (!isTableNumber(t)) {
            return BAD;
        }
        Table table = tables[t];
        if (table.isMissing()) {
            return found(NOTHING);
        }
        if (!table.hasLine(i) || !table.hasLine(j)) {
            return found(BEYOND);
        }
        latestAsked = table.number(i, j);
        return 1;
    }

    public int told(int t, int what) {
        if (!isTableNumber(t) || what < 0 || what > 4) {
            return BAD;
        }
        Table table = tables[t];
        if (table.isMissing()) {
            return found(NOTHING);
        }
        switch (what) {
            case 0: latestAsked = table.kind; break;
            case 1: latestAsked = table.n; break;
            case 2: latestAsked = countBits(table.plus, table.n); break;
            case 3: latestAsked = countBits(table.minus, table.n); break;
            default: latestAsked = table.isNormal() ? 1 : 0; break;
        }
        return 1;
    }

    public int mark(int t, int kind) {
        if (!isTableNumber(t) || kind < SQUARE || kind > EVEN) {
            return BAD;
        }
        Table table = tables[t];
        if (table.isMissing()) {
            return found(NOTHING);
        }
        if (!table.isOfKind(kind)) {
            return found(UNLIKE);
        }
        switch (kind) {
            case SQUARE: return table.n / 2;
            case ROUND: return table.rowSum(0, 0);
            case GRAPH: return table.edges();
            default: return table.neighbours(0);
        }
    }

    // ---- 2 squares

    public int times(int t, int u, int to) {
        if (!isTableNumber(t) || !isTableNumber(u) || !isTableNumber(to)) {
            return BAD;
        }
        Table outer = tables[t];
        Table inner = tables[u];
        if (outer.isMissing() || inner.isMissing()) {
            return found(NOTHING);
        }
        if (outer.n * inner.n > TABLE_MOST) {
            return found(SIZE);
        }
        work.beginProduct(outer, inner);
        tables[to].take(work);
        return tables[to].judged();
    }

    public int residues(int t, int p) {
        if (!isTableNumber(t) || p != 3 && p != 5 && p != 7 && p != 11) {
            return BAD;
        }
        Table table = tables[t];
        table.begin(p);
        writeResidues(table, 0, p);
        return table.judged();
    }

    public int bordered(int t, int p) {
        if (!isTableNumber(t) || p != 3 && p != 7 && p != 11) {
            return BAD;
        }
        Table table = tables[t];
        table.begin(p + 1);
        writeResidues(table, 1, p);
        for (int i = 1; i <= p; i++) {
            table.write(i, 0, -1);
            table.write(i, i, 1);
        }
        return table.judged();
    }

    public int four(int t, int a, int b, int c, int d) {
        if (!isTableNumber(t) || !isRowNumber(a) || !isRowNumber(b)
                || !isRowNumber(c) || !isRowNumber(d)) {
            return BAD;
        }
        return fourRounds(tables[t], rows[a], rows[b], rows[c], rows[d]);
    }

    public int turn(int t, int rows, int columns) {
        if (!isTableNumber(t)) {
            return BAD;
        }
        Table table = tables[t];
        if (table.isMissing()) {
            return found(NOTHING);
        }
        if (table.isBeyond(rows) || table.isBeyond(columns)) {
            return BAD;
        }
        table.turnColumns(columns);
        table.turnRows(rows);
        return table.judged();
    }

    public int swap(int t, boolean columns, int i, int j) {
        if (!isTableNumber(t)) {
            return BAD;
        }
        Table table = tables[t];
        if (table.isMissing()) {
            return found(NOTHING);
        }
        if (!table.hasLine(i) || !table.hasLine(j)) {
            return found(BEYOND);
        }
        if (columns) {
            table.exchangeColumns(i, j);
        } else {
            table.exchangeRows(i, j);
        }
        return table.judged();
    }

    public int flip(int t) {
        if (!isTableNumber(t)) {
            return BAD;
        }
        Table table = tables[t];
        if (table.isMissing()) {
            return found(NOTHING);
        }
        work.beginFlipped(table);
        table.take(work);
        return table.judged();
    }

    public int normal(int t) {
        if (!isTableNumber(t)) {
            return BAD;
        }
        Table table = tables[t];
        if (table.isMissing()) {
            return found(NOTHING);
        }
        if (!table.isSigns()) {
            return found(UNLIKE);
        }
        int columns = table.minus[0];
        table.turnColumns(columns);
        int lines = table.minusOfColumn(0);
        table.turnRows(lines);
        table.judged();
        return Integer.bitCount(columns) + Integer.bitCount(lines);
    }

    public int worth(int t) {
        if (!isTableNumber(t)) {
            return BAD;
        }
        if (tables[t].isMissing()) {
            return found(NOTHING);
        }
        polynomial.tellOf(tables[t]);
        latestWorth = polynomial.coefficients[0];
        return 1;
    }

    public int balanced(int t) {
        if (!isTableNumber(t)) {
            return BAD;
        }
        if (tables[t].isMissing()) {
            return found(NOTHING);
        }
        return tables[t].balancedPairs();
    }

    public int common(int t, int set) {
        if (!isTableNumber(t)) {
            return BAD;
        }
        Table table = tables[t];
        if (table.isMissing()) {
            return found(NOTHING);
        }
        if (!table.isSigns()) {
            return found(UNLIKE);
        }
        if (set == 0 || table.isBeyond(set)) {
            return found(BEYOND);
        }
        return table.commonOf(set);
    }

    public int profile(int t, int k, int c) {
        if (!isTableNumber(t) || k < 2 || k > 4 || c < 0 || c > TABLE_MOST) {
            return BAD;
        }
        Table table = tables[t];
        if (table.isMissing()) {
            return found(NOTHING);
        }
        if (!table.isSigns()) {
            return found(UNLIKE);
        }
        clearTally();
        table.addProfile(k, tally, 1);
        return tally[c];
    }

    public int mayBeLike(int t, int u) {
        if (!isTableNumber(t) || !isTableNumber(u)) {
            return BAD;
        }
        Table one = tables[t];
        Table other = tables[u];
        if (one.isMissing() || other.isMissing()) {
            return found(NOTHING);
        }
        if (!one.isSigns() || !other.isSigns() || one.n != other.n) {
            return found(UNLIKE);
        }
        work.beginFlipped(one);
        otherWork.beginFlipped(other);
        boolean same = haveOneProfile(one, other, 2) && haveOneProfile(one, other, 4)
                && haveOneProfile(work, otherWork, 2) && haveOneProfile(work, otherWork, 4);
        return same ? 1 : 0;
    }

    public int like(int t, int u) {
        if (!isTableNumber(t) || !isTableNumber(u)) {
            return BAD;
        }
        Table one = tables[t];
        Table other = tables[u];
        if (one.isMissing() || other.isMissing()) {
            return found(NOTHING);
        }
        if (!one.isSigns() || !other.isSigns() || one.n != other.n) {
            return found(UNLIKE);
        }
        if (one.n > LIKE_MOST) {
            return found(SIZE);
        }
        return one.comesFrom(other) ? 1 : 0;
    }

    public int excess(int t) {
        if (!isTableNumber(t)) {
            return BAD;
        }
        Table table = tables[t];
        if (table.isMissing()) {
            return found(NOTHING);
        }
        int best = -1;
        // All signs turned at once give the same sizes, so the last column need not turn.
        for (int turned = 0; turned < 1 << (table.n - 1); turned++) {
            int sum = table.sumOfSizes(turned);
            if (sum > best) {
                best = sum;
                latestAsked = turned;
            }
        }
        return best;
    }

    public int peak(int t) {
        if (!isTableNumber(t)) {
            return BAD;
        }
        Table table = tables[t];
        if (table.isMissing()) {
            return found(NOTHING);
        }
        int best = table.n + 1;
        // All signs turned at once give the same sizes, so the last column need not turn.
        for (int turned = 0; turned < 1 << (table.n - 1); turned++) {
            int size = table.greatestSize(turned, best);
            if (size < best) {
                best = size;
                latestAsked = turned;
            }
        }
        return best;
    }

    public int block(int t, int i) {
        if (!isTableNumber(t)) {
            return BAD;
        }
        Table table = tables[t];
        if (table.isMissing()) {
            return found(NOTHING);
        }
        if (!table.isOfKind(SQUARE)) {
            return found(UNLIKE);
        }
        if (table.n < 4) {
            return found(SIZE);
        }
        if (i < 0 || i > table.n - 2) {
            return found(BEYOND);
        }
        return table.normalPlus(i + 1) >> 1;
    }

    // ---- 3 echoes

    public int echo(int r, int s, boolean round) {
        if (!isRowNumber(r)) {
            return BAD;
        }
        Row row = rows[r];
        int f = findingOfSigns(row);
        if (f != 0) {
            return found(f);
        }
        if (s < 0 || s >= row.size) {
            return found(BEYOND);
        }
        latestAsked = echoOf(row.minusBits(), row.size, s, round);
        return 1;
    }

    public int side(int r) {
        if (!isRowNumber(r)) {
            return BAD;
        }
        Row row = rows[r];
        int f = findingOfSigns(row);
        if (f != 0) {
            return found(f);
        }
        return sideOf(row.minusBits(), row.size, row.size);
    }

    public int cancels(int a, int b, boolean round) {
        if (!isRowNumber(a) || !isRowNumber(b)) {
            return BAD;
        }
        Row one = rows[a];
        Row other = rows[b];
        int f = findingOfPair(one, other, ROW_MOST);
        if (f != 0) {
            return found(f);
        }
        return pairCancels(one, other, round) ? 1 : 0;
    }

    public int pairs(int n) {
        if (n < 1 || n > PAIRS_MOST) {
            return BAD;
        }
        int half = 1 << (n - 1);
        for (int bits = 0; bits < half; bits++) {
            echoKeys[bits] = echoKey(bits, n);
        }
        int cancelling = 0;
        for (int a = 0; a < half; a++) {
            for (int b = 0; b < half; b++) {
                if (echoKeys[a] + echoKeys[b] == 0) {
                    cancelling++;
                }
            }
        }
        // Turned as a whole, SIGNS keep their ECHOES: the last sign was held in both.
        return 4 * cancelling;
    }

    public int leastSide(int n, int to) {
        if (n < 1 || n > LEAST_SIDE_MOST || !isRowNumber(to)) {
            return BAD;
        }
        int least = n;
        int first = 0;
        // Turned as a whole, SIGNS keep their SIDE, so the first has 1 at the last place.
        for (int bits = 0; bits < 1 << (n - 1); bits++) {
            int side = sideOf(bits, n, least);
            if (side < least) {
                least = side;
                first = bits;
            }
        }
        rows[to].beginSigns(n, first);
        return least;
    }

    public int longer(int a, int b, int to, int other) {
        if (!isRowNumber(a) || !isRowNumber(b) || !isRowNumber(to) || !isRowNumber(other)
                || to == other) {
            return BAD;
        }
        Row front = rows[a];
        Row back = rows[b];
        int f = findingOfPair(front, back, ROW_MOST / 2);
        if (f != 0) {
            return found(f);
        }
        if (!pairCancels(front, back, false)) {
            return STATE;
        }
        int n = front.size;
        int frontBits = front.minusBits();
        int backBits = back.minusBits();
        rows[to].beginSigns(2 * n, frontBits | backBits << n);
        rows[other].beginSigns(2 * n, frontBits | (backBits ^ allBits(n)) << n);
        return 2 * n;
    }

    // ---- 4 graphs

    public int switched(int t, int set) {
        if (!isTableNumber(t)) {
            return BAD;
        }
        Table table = tables[t];
        int f = findingOfGraph(table);
        if (f != 0) {
            return found(f);
        }
        if (table.isBeyond(set)) {
            return found(BEYOND);
        }
        table.switchBy(set);
        return table.judged();
    }

    public int odd(int t) {
        if (!isTableNumber(t)) {
            return BAD;
        }
        int f = findingOfGraph(tables[t]);
        if (f != 0) {
            return found(f);
        }
        return tables[t].oddTriples();
    }

    public int alike(int t, int u) {
        if (!isTableNumber(t) || !isTableNumber(u)) {
            return BAD;
        }
        Table one = tables[t];
        Table other = tables[u];
        if (one.isMissing() || other.isMissing()) {
            return found(NOTHING);
        }
        if (!one.isOfKind(GRAPH) || !other.isOfKind(GRAPH) || one.n != other.n) {
            return found(UNLIKE);
        }
        // Without node 0 the set must hold just the nodes that node 0 is joined to in one of both.
        int set = one.minus[0] ^ other.minus[0];
        if (!one.becomesBySwitching(other, set)) {
            return 0;
        }
        latestAsked = set;
        return 1;
    }

    public int fewest(int t) {
        if (!isTableNumber(t)) {
            return BAD;
        }
        Table table = tables[t];
        int f = findingOfGraph(table);
        if (f != 0) {
            return found(f);
        }
        int least = TABLE_MOST * TABLE_MOST;
        for (int set = 0; set < 1 << table.n; set += 2) {
            int edges = table.edgesSwitched(set);
            if (edges < least) {
                least = edges;
                latestAsked = set;
            }
        }
        return least;
    }

    public int even(int t, int what) {
        if (!isTableNumber(t) || what < 0 || what > 3) {
            return BAD;
        }
        Table table = tables[t];
        if (table.isMissing()) {
            return found(NOTHING);
        }
        if (!table.isOfKind(EVEN)) {
            return found(UNLIKE);
        }
        switch (what) {
            case 0: return table.n;
            case 1: return table.neighbours(0);
            case 2: return table.commonOfFirstPair(1);
            default: return table.commonOfFirstPair(0);
        }
    }

    public int own(int t, int x) {
        if (!isTableNumber(t) || x < -12 || x > 12) {
            return BAD;
        }
        if (tables[t].isMissing()) {
            return found(NOTHING);
        }
        polynomial.tellOf(tables[t]);
        return polynomial.takeRoots(x);
    }

    public int form(int t, int k) {
        if (!isTableNumber(t) || k < 0) {
            return BAD;
        }
        Table table = tables[t];
        if (table.isMissing()) {
            return found(NOTHING);
        }
        if (k > table.n) {
            return found(BEYOND);
        }
        polynomial.tellOf(table);
        latestWorth = polynomial.coefficients[k];
        return 1;
    }

    public int weight(int t) {
        if (!isTableNumber(t)) {
            return BAD;
        }
        Table table = tables[t];
        if (table.isMissing()) {
            return found(NOTHING);
        }
        tellFraction(countBits(table.plus, table.n) - countBits(table.minus, table.n), table.n);
        return 1;
    }

    // ---- 5 what is told

    public long worthTold() {
        return latestWorth;
    }

    public int asked() {
        return latestAsked;
    }

    public long upper() {
        return latestUpper;
    }

    public long lower() {
        return latestLower;
    }

    public int count(int what) {
        switch (what) {
            case 0: return countRows();
            case 1: return countTables(ANY);
            case 2: return countTables(SQUARE);
            case 3: return countTables(GRAPH);
            default: return BAD;
        }
    }

    public int finding() {
        return latestFinding;
    }

    public int findings(int f) {
        return f < NOTHING || f > SIZE ? BAD : findingCounts[f];
    }

    public long digest() {
        long h = 17;
        for (int t = 0; t < TABLES; t++) {
            h = tables[t].addedTo(h);
        }
        for (int r = 0; r < ROWS; r++) {
            h = rows[r].addedTo(h);
        }
        return h;
    }

    // ---- what the calls share

    private static boolean isRowNumber(int r) {
        return r >= 0 && r < ROWS;
    }

    private static boolean isTableNumber(int t) {
        return t >= 0 && t < TABLES;
    }

    private int found(int f) {
        latestFinding = f;
        findingCounts[f]++;
        return FINDING;
    }

    private int countRows() {
        int there = 0;
        for (int r = 0; r < ROWS; r++) {
            if (!rows[r].isMissing()) {
                there++;
            }
        }
        return there;
    }

    private int countTables(int kind) {
        int there = 0;
        for (int t = 0; t < TABLES; t++) {
            if (!tables[t].isMissing() && tables[t].isOfKind(kind)) {
                there++;
            }
        }
        return there;
    }

    /** The FINDING, in the order of the calls, that bars a ROW from being used as SIGNS; 0: none. */
    private static int findingOfSigns(Row row) {
        if (row.isMissing()) {
            return NOTHING;
        }
        if (row.size == 0) {
            return SIZE;
        }
        return row.isSigns() ? 0 : UNLIKE;
    }

    private static int findingOfPair(Row one, Row other, int most) {
        if (one.isMissing() || other.isMissing()) {
            return NOTHING;
        }
        if (one.size == 0 || one.size != other.size || one.size > most) {
            return SIZE;
        }
        return one.isSigns() && other.isSigns() ? 0 : UNLIKE;
    }

    private static int findingOfGraph(Table table) {
        if (table.isMissing()) {
            return NOTHING;
        }
        return table.isOfKind(GRAPH) ? 0 : UNLIKE;
    }

    private static int findingOfRounds(Row a, Row b, Row c, Row d) {
        if (a.isMissing() || b.isMissing() || c.isMissing() || d.isMissing()) {
            return NOTHING;
        }
        int m = a.size;
        if (m < 1 || m > ROUNDS_MOST || b.size != m || c.size != m || d.size != m) {
            return SIZE;
        }
        boolean fine = a.isSignsBothWays() && b.isSignsBothWays()
                && c.isSignsBothWays() && d.isSignsBothWays();
        return fine ? 0 : UNLIKE;
    }

    private int fourRounds(Table table, Row a, Row b, Row c, Row d) {
        int f = findingOfRounds(a, b, c, d);
        if (f != 0) {
            return found(f);
        }
        int m = a.size;
        for (int s = 1; s < m; s++) {
            int together = echoOf(a.minusBits(), m, s, true) + echoOf(b.minusBits(), m, s, true)
                    + echoOf(c.minusBits(), m, s, true) + echoOf(d.minusBits(), m, s, true);
            if (together != 0) {
                return STATE;
            }
        }
        table.begin(4 * m);
        for (int part = 0; part < FOUR_PARTS.length; part++) {
            int which = FOUR_PARTS[part];
            Row row = which == 0 ? a : which == 1 ? b : which == 2 ? c : d;
            writeRound(table, part, row);
        }
        return table.judged();
    }

    /** Writes the part (0 .. 15, row by row) of a table of four by four parts. */
    private static void writeRound(Table table, int part, Row row) {
        int m = row.size;
        int top = part / 4 * m;
        int left = part % 4 * m;
        for (int i = 0; i < m; i++) {
            for (int j = 0; j < m; j++) {
                int place = j >= i ? j - i : j - i + m;
                table.write(top + i, left + j, FOUR_SIGNS[part] * row.ints[place]);
            }
        }
    }

    private static void writeResidues(Table table, int from, int p) {
        int squares = squaresModulo(p);
        for (int i = 0; i < p; i++) {
            for (int j = 0; j < p; j++) {
                int less = j >= i ? j - i : j - i + p;
                int number = less == 0 ? 0 : (squares >> less & 1) == 1 ? 1 : -1;
                table.write(from + i, from + j, number);
            }
        }
    }

    private static int squaresModulo(int p) {
        int squares = 0;
        for (int x = 1; x < p; x++) {
            squares |= 1 << x * x % p;
        }
        return squares;
    }

    private void clearTally() {
        for (int c = 0; c < tally.length; c++) {
            tally[c] = 0;
        }
    }

    private boolean haveOneProfile(Table one, Table other, int k) {
        clearTally();
        one.addProfile(k, tally, 1);
        other.addProfile(k, tally, -1);
        for (int c = 0; c < tally.length; c++) {
            if (tally[c] != 0) {
                return false;
            }
        }
        return true;
    }

    private void tellFraction(int above, int below) {
        latestUpper = above;
        latestLower = below;
        for (int d = below; d > 1; d--) {
            if (above % d == 0 && below % d == 0) {
                latestUpper = above / d;
                latestLower = below / d;
                return;
            }
        }
    }

    private static int allBits(int n) {
        return (1 << n) - 1;
    }

    private static int countBits(int[] sets, int n) {
        int bits = 0;
        for (int i = 0; i < n; i++) {
            bits += Integer.bitCount(sets[i]);
        }
        return bits;
    }

    /** ECHO at s (0 .. n - 1) of n SIGNS told by bits: each place at which they differ counts -1. */
    private static int echoOf(int bits, int n, int s, boolean round) {
        int moved = bits >> s;
        int places = n - s;
        if (round) {
            moved |= bits << places;
            places = n;
        }
        return places - 2 * Integer.bitCount((bits ^ moved) & allBits(places));
    }

    /** SIDE of n SIGNS told by bits; looks no further when it is as great as the caller can use. */
    private static int sideOf(int bits, int n, int enough) {
        int side = 0;
        for (int s = 1; s < n && side < enough; s++) {
            side = Math.max(side, Math.abs(echoOf(bits, n, s, false)));
        }
        return side;
    }

    /** All ECHOES above 0 in one number; two of them add to 0 only if each ECHO does (14 at most). */
    private static long echoKey(int bits, int n) {
        long key = 0;
        for (int s = 1; s < n; s++) {
            key = key * 32 + echoOf(bits, n, s, false);
        }
        return key;
    }

    private static boolean pairCancels(Row one, Row other, boolean round) {
        int n = one.size;
        int a = one.minusBits();
        int b = other.minusBits();
        for (int s = 1; s < n; s++) {
            if (echoOf(a, n, s, round) + echoOf(b, n, s, round) != 0) {
                return false;
            }
        }
        return true;
    }

    /** A ROW; its size is below 0 when it is missing. */
    private static final class Row {
        final int[] ints = new int[ROW_MOST];
        int size = -1;

        boolean isMissing() {
            return size < 0;
        }

        void end() {
            size = -1;
        }

        void beginSigns(int n, int bits) {
            size = n;
            for (int i = 0; i < n; i++) {
                ints[i] = 1 - 2 * (bits >> i & 1);
            }
        }

        boolean hasPlaces(int from, int many) {
            return from >= 0 && (long) from + many <= size;
        }

        long sum() {
            long sum = 0;
            for (int i = 0; i < size; i++) {
                sum += ints[i];
            }
            return sum;
        }

        boolean isNumbers() {
            for (int i = 0; i < size; i++) {
                if (ints[i] < -1 || ints[i] > 1) {
                    return false;
                }
            }
            return true;
        }

        boolean isSigns() {
            for (int i = 0; i < size; i++) {
                if (ints[i] != 1 && ints[i] != -1) {
                    return false;
                }
            }
            return true;
        }

        boolean isSignsBothWays() {
            for (int i = 1; i < size; i++) {
                if (ints[i] != ints[size - i]) {
                    return false;
                }
            }
            return isSigns();
        }

        int minusBits() {
            int bits = 0;
            for (int i = 0; i < size; i++) {
                if (ints[i] < 0) {
                    bits |= 1 << i;
                }
            }
            return bits;
        }

        long addedTo(long digest) {
            long h = 31 * digest + size;
            for (int i = 0; i < size; i++) {
                h = 31 * h + ints[i];
            }
            return h;
        }
    }

    /** A TABLE, each row as the set of columns with 1 and that with -1; n is 0 when it is missing. */
    private static final class Table {
        final int[] plus = new int[TABLE_MOST];
        final int[] minus = new int[TABLE_MOST];
        int n = 0;
        int kind = ANY;

        boolean isMissing() {
            return n == 0;
        }

        void end() {
            n = 0;
            kind = ANY;
        }

        void begin(int size) {
            n = size;
            for (int i = 0; i < n; i++) {
                plus[i] = allBits(n);
                minus[i] = 0;
            }
        }

        void take(Table other) {
            n = other.n;
            for (int i = 0; i < n; i++) {
                plus[i] = other.plus[i];
                minus[i] = other.minus[i];
            }
        }

        boolean hasLine(int i) {
            return i >= 0 && i < n;
        }

        boolean isBeyond(int set) {
            return (set & ~allBits(n)) != 0;
        }

        int number(int i, int j) {
            return (plus[i] >> j & 1) - (minus[i] >> j & 1);
        }

        void write(int i, int j, int v) {
            int bit = 1 << j;
            plus[i] = v > 0 ? plus[i] | bit : plus[i] & ~bit;
            minus[i] = v < 0 ? minus[i] | bit : minus[i] & ~bit;
        }

        // -- its KIND

        int judged() {
            if (isSigns() && rowsBalance()) {
                kind = rowsMoveOn() ? ROUND : SQUARE;
            } else if (isGraph()) {
                kind = isEven() ? EVEN : GRAPH;
            } else {
                kind = ANY;
            }
            return kind;
        }

        /** A ROUND is a SQUARE, an EVEN one a GRAPH, all are TABLES. */
        boolean isOfKind(int asked) {
            return asked == ANY || kind == asked
                    || asked == SQUARE && kind == ROUND || asked == GRAPH && kind == EVEN;
        }

        boolean isSigns() {
            for (int i = 0; i < n; i++) {
                if ((plus[i] | minus[i]) != allBits(n)) {
                    return false;
                }
            }
            return true;
        }

        private boolean rowsBalance() {
            return balancedPairs() == n * (n - 1) / 2;
        }

        private boolean rowsMoveOn() {
            for (int i = 1; i < n; i++) {
                int ahead = minus[i - 1];
                if (minus[i] != ((ahead << 1 | ahead >> (n - 1)) & allBits(n))) {
                    return false;
                }
            }
            return true;
        }

        private boolean isGraph() {
            for (int i = 0; i < n; i++) {
                if ((plus[i] | minus[i]) != allBits(n) - (1 << i) || minus[i] != minusOfColumn(i)) {
                    return false;
                }
            }
            return true;
        }

        private boolean isEven() {
            int ofJoined = commonOfFirstPair(1);
            int ofOthers = commonOfFirstPair(0);
            for (int i = 0; i < n; i++) {
                if (neighbours(i) != neighbours(0)) {
                    return false;
                }
                for (int j = 0; j < i; j++) {
                    int due = (minus[i] >> j & 1) == 1 ? ofJoined : ofOthers;
                    if (Integer.bitCount(minus[i] & minus[j]) != due) {
                        return false;
                    }
                }
            }
            return true;
        }

        boolean isNormal() {
            return isSigns() && minus[0] == 0 && minusOfColumn(0) == 0;
        }

        // -- its rows and columns

        int minusOfColumn(int j) {
            int set = 0;
            for (int i = 0; i < n; i++) {
                set |= (minus[i] >> j & 1) << i;
            }
            return set;
        }

        void turnColumns(int set) {
            for (int i = 0; i < n; i++) {
                int changed = (plus[i] ^ minus[i]) & set;
                plus[i] ^= changed;
                minus[i] ^= changed;
            }
        }

        void turnRows(int set) {
            for (int i = 0; i < n; i++) {
                if ((set >> i & 1) == 1) {
                    int kept = plus[i];
                    plus[i] = minus[i];
                    minus[i] = kept;
                }
            }
        }

        void exchangeRows(int i, int j) {
            int keptPlus = plus[i];
            int keptMinus = minus[i];
            plus[i] = plus[j];
            minus[i] = minus[j];
            plus[j] = keptPlus;
            minus[j] = keptMinus;
        }

        void exchangeColumns(int i, int j) {
            for (int row = 0; row < n; row++) {
                int kept = number(row, i);
                write(row, i, number(row, j));
                write(row, j, kept);
            }
        }

        void beginFlipped(Table other) {
            begin(other.n);
            for (int i = 0; i < n; i++) {
                for (int j = 0; j < n; j++) {
                    write(i, j, other.number(j, i));
                }
            }
        }

        void beginProduct(Table outer, Table inner) {
            int m = inner.n;
            begin(outer.n * m);
            for (int i = 0; i < n; i++) {
                for (int j = 0; j < n; j++) {
                    write(i, j, outer.number(i / m, j / m) * inner.number(i % m, j % m));
                }
            }
        }

        // -- its sums

        int balancedPairs() {
            int pairs = 0;
            for (int i = 0; i < n; i++) {
                for (int j = 0; j < i; j++) {
                    int agree = plus[i] & plus[j] | minus[i] & minus[j];
                    int differ = plus[i] & minus[j] | minus[i] & plus[j];
                    if (Integer.bitCount(agree) == Integer.bitCount(differ)) {
                        pairs++;
                    }
                }
            }
            return pairs;
        }

        int commonOf(int set) {
            int products = 0;
            for (int i = 0; i < n; i++) {
                if ((set >> i & 1) == 1) {
                    products ^= minus[i];
                }
            }
            return Math.abs(n - 2 * Integer.bitCount(products));
        }

        void addProfile(int k, int[] tally, int by) {
            for (int set = 0; set < 1 << n; set++) {
                if (Integer.bitCount(set) == k) {
                    tally[commonOf(set)] += by;
                }
            }
        }

        int rowSum(int i, int turned) {
            return Integer.bitCount(plus[i]) - Integer.bitCount(minus[i])
                    - 2 * (Integer.bitCount(plus[i] & turned) - Integer.bitCount(minus[i] & turned));
        }

        int sumOfSizes(int turned) {
            int sum = 0;
            for (int i = 0; i < n; i++) {
                sum += Math.abs(rowSum(i, turned));
            }
            return sum;
        }

        /** Looks no further when the size is as great as the caller can use. */
        int greatestSize(int turned, int enough) {
            int size = 0;
            for (int i = 0; i < n && size < enough; i++) {
                size = Math.max(size, Math.abs(rowSum(i, turned)));
            }
            return size;
        }

        /** The columns with 1 in row i of the NORMAL table made from this one. */
        int normalPlus(int i) {
            int differing = minus[i] ^ minus[0];
            int turned = (differing & 1) == 1 ? differing : ~differing;
            return turned & allBits(n);
        }

        // -- LIKE, for at most four rows

        boolean comesFrom(Table other) {
            int due = other.columnsTold(ORDER_AS_IT_IS, 0);
            for (int order = 0; order < 1 << 2 * n; order++) {
                if (isOrder(order) && comesInOrder(order, due)) {
                    return true;
                }
            }
            return false;
        }

        private boolean comesInOrder(int order, int due) {
            for (int turned = 0; turned < 1 << n; turned++) {
                if (columnsTold(order, turned) == due) {
                    return true;
                }
            }
            return false;
        }

        private boolean isOrder(int order) {
            int seen = 0;
            for (int i = 0; i < n; i++) {
                seen |= 1 << (order >> 2 * i & 3);
            }
            return seen == allBits(n);
        }

        /** How often each column stands there, whatever its sign and place, in three bits each. */
        private int columnsTold(int order, int turned) {
            int told = 0;
            for (int j = 0; j < n; j++) {
                int column = turned;
                for (int i = 0; i < n; i++) {
                    column ^= (minus[order >> 2 * i & 3] >> j & 1) << i;
                }
                int firstIsPlus = (column & 1) == 1 ? column ^ allBits(n) : column;
                told += 1 << 3 * (firstIsPlus >> 1);
            }
            return told;
        }

        // -- it as a GRAPH

        int neighbours(int i) {
            return Integer.bitCount(minus[i]);
        }

        int edges() {
            return countBits(minus, n) / 2;
        }

        /** How many neighbours the first two nodes have in common that are joined (1) or not (0). */
        int commonOfFirstPair(int joined) {
            for (int i = 0; i < n; i++) {
                for (int j = 0; j < i; j++) {
                    if ((minus[i] >> j & 1) == joined) {
                        return Integer.bitCount(minus[i] & minus[j]);
                    }
                }
            }
            return NONE;
        }

        private int neighboursSwitched(int i, int set) {
            int others = (set >> i & 1) == 1 ? allBits(n) & ~set : set;
            return minus[i] ^ others;
        }

        void switchBy(int set) {
            for (int i = 0; i < n; i++) {
                minus[i] = neighboursSwitched(i, set);
                plus[i] = allBits(n) - (1 << i) & ~minus[i];
            }
        }

        boolean becomesBySwitching(Table other, int set) {
            for (int i = 0; i < n; i++) {
                if (neighboursSwitched(i, set) != other.minus[i]) {
                    return false;
                }
            }
            return true;
        }

        int edgesSwitched(int set) {
            int ends = 0;
            for (int i = 0; i < n; i++) {
                ends += Integer.bitCount(neighboursSwitched(i, set));
            }
            return ends / 2;
        }

        int oddTriples() {
            int triples = 0;
            for (int i = 0; i < n; i++) {
                for (int j = i + 1; j < n; j++) {
                    // The third node makes the triple odd, if just one is joined to it, or not so.
                    int differing = (minus[i] ^ minus[j]) >> (j + 1);
                    int thirds = n - j - 1;
                    int oneJoined = Integer.bitCount(differing);
                    triples += (minus[i] >> j & 1) == 1 ? thirds - oneJoined : oneJoined;
                }
            }
            return triples;
        }

        long addedTo(long digest) {
            if (isMissing()) {
                return 31 * digest - 1;
            }
            long h = 31 * (31 * digest + kind) + n;
            for (int i = 0; i < n; i++) {
                for (int j = 0; j < n; j++) {
                    h = 31 * h + number(i, j);
                }
            }
            return h;
        }
    }

    /** WORTH of a TABLE with x taken from all (i, i), as a polynomial in x. */
    private static final class Polynomial {
        final long[] coefficients = new long[TABLE_MOST + 1];
        private final long[] part = new long[TABLE_MOST * TABLE_MOST];
        private final long[] product = new long[TABLE_MOST * TABLE_MOST];
        private int degree = 0;

        /**
         * By the traces of products (Faddeev, LeVerrier): the divisions leave nothing, and all
         * that comes up are sums of minors, far below what a long holds.
         */
        void tellOf(Table table) {
            degree = table.n;
            beginPart();
            coefficients[degree] = 1;
            for (int k = 1; k <= degree; k++) {
                multiply(table);
                long next = -trace() / k;
                coefficients[degree - k] = next;
                takeProduct(next);
            }
            // This far it is that of x with the TABLE taken from it.
            if (degree % 2 == 1) {
                turnCoefficients();
            }
        }

        private void turnCoefficients() {
            for (int k = 0; k <= degree; k++) {
                coefficients[k] = -coefficients[k];
            }
        }

        private void beginPart() {
            for (int i = 0; i < degree; i++) {
                for (int j = 0; j < degree; j++) {
                    part[i * degree + j] = i == j ? 1 : 0;
                }
            }
        }

        private void multiply(Table table) {
            for (int i = 0; i < degree; i++) {
                for (int j = 0; j < degree; j++) {
                    long sum = 0;
                    for (int l = 0; l < degree; l++) {
                        sum += table.number(i, l) * part[l * degree + j];
                    }
                    product[i * degree + j] = sum;
                }
            }
        }

        private long trace() {
            long sum = 0;
            for (int i = 0; i < degree; i++) {
                sum += product[i * degree + i];
            }
            return sum;
        }

        private void takeProduct(long onDiagonal) {
            for (int i = 0; i < degree; i++) {
                for (int j = 0; j < degree; j++) {
                    int place = i * degree + j;
                    part[place] = product[place] + (i == j ? onDiagonal : 0);
                }
            }
        }

        /** Divides by x less root as often as nothing is left: how often. */
        int takeRoots(int root) {
            int often = 0;
            for (int left = degree; left > 0 && valueAt(root) == 0; left--) {
                divideBy(root);
                often++;
            }
            return often;
        }

        private long valueAt(int x) {
            long value = 0;
            for (int k = degree; k >= 0; k--) {
                value = value * x + coefficients[k];
            }
            return value;
        }

        private void divideBy(int root) {
            long carried = 0;
            for (int k = degree; k >= 0; k--) {
                long kept = coefficients[k];
                coefficients[k] = carried;
                carried = kept + root * carried;
            }
            degree--;
        }
    }
}
