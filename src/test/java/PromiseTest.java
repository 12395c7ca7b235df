/** For each promise: ordinary inputs, the edges that the document names, wrong inputs. */
public final class PromiseTest {
    private static final int NOTHING = 1, BEYOND = 2, UNLIKE = 3, NOUGHT = 4, SIZE = 5;
    private static int wrong = 0;
    private static int promise = 0;
    private static SignSquares x = new SignSquares();

    public static void main(String[] args) {
        newObject();
        rows();
        copies();
        means();
        tables();
        puts();
        sets();
        toldOfTables();
        kinds();
        marks();
        products();
        primes();
        fourRounds();
        turning();
        normals();
        worths();
        balances();
        commons();
        profiles();
        likes();
        excessesAndPeaks();
        blocks();
        echoes();
        cancelling();
        pairsAndSides();
        longerPairs();
        switching();
        alikes();
        evens();
        ownNumbers();
        weights();
        whatIsTold();
        digests();
        System.out.println(wrong == 0 ? "all promises hold" : wrong + " answers are wrong");
        if (wrong != 0) {
            System.exit(1);
        }
    }

    // ---- helpers

    private static void begin(int number) {
        promise = number;
        x = new SignSquares();
    }

    private static void due(String call, long want, long got) {
        if (want != got) {
            wrong++;
            System.out.println("promise " + promise + ": " + call + " answered " + got + ", due is " + want);
        }
    }

    /** The refusal must be a FINDING, the one that is due, counted once, and change nothing else. */
    private static void finds(String call, int want, java.util.function.IntSupplier asked) {
        String before = state();
        int count = x.findings(want);
        due(call, SignSquares.FINDING, asked.getAsInt());
        due(call + " finding", want, x.finding());
        due(call + " findings", count + 1, x.findings(want));
        same(call, before);
    }

    /** The refusal must leave even the findings as they were. */
    private static void refuses(String call, int want, java.util.function.IntSupplier asked) {
        String before = state() + findings();
        due(call, want, asked.getAsInt());
        if (!before.equals(state() + findings())) {
            wrong++;
            System.out.println("promise " + promise + ": " + call + " was refused, and changed something");
        }
    }

    private static void bad(String call, java.util.function.IntSupplier asked) {
        refuses(call, SignSquares.BAD, asked);
    }

    private static void same(String call, String before) {
        if (!before.equals(state())) {
            wrong++;
            System.out.println("promise " + promise + ": " + call + " was refused, and changed something");
        }
    }

    private static String state() {
        return x.digest() + " " + x.asked() + " " + x.worthTold() + " " + x.upper() + " " + x.lower();
    }

    private static String findings() {
        StringBuilder told = new StringBuilder().append(x.finding());
        for (int f = 1; f <= 5; f++) {
            told.append(' ').append(x.findings(f));
        }
        return told.toString();
    }

    private static void asks(String call, int want, int answer) {
        due(call, 1, answer);
        due(call + " asked", want, x.asked());
    }

    private static void layRow(int r, int... values) {
        due("row", values.length, x.row(r, values.length));
        for (int i = 0; i < values.length; i++) {
            due("lay", 1, x.lay(r, i, values[i]));
        }
    }

    private static void rowIs(String what, int r, int... values) {
        for (int i = 0; i < values.length; i++) {
            due(what + " place " + i, 1, x.lay(r, i, values[i]));
            due(what + " place " + i, values[i], x.asked());
        }
        int before = x.findings(BEYOND);
        due(what + " size", SignSquares.FINDING, x.lay(r, values.length, 0));
        due(what + " size", before + 1, x.findings(BEYOND));
    }

    /** Row after row in signs: '+', '-', '0', with blanks between the rows: the KIND. */
    private static int layTable(int t, String signs) {
        String[] lines = signs.split(" ");
        int kind = x.table(t, lines.length);
        for (int i = 0; i < lines.length; i++) {
            for (int j = 0; j < lines.length; j++) {
                char c = lines[i].charAt(j);
                kind = x.set(t, i, j, c == '+' ? 1 : c == '-' ? -1 : 0, false);
            }
        }
        return kind;
    }

    private static String tableTold(int t) {
        x.told(t, 1);
        int n = x.asked();
        StringBuilder signs = new StringBuilder();
        for (int i = 0; i < n; i++) {
            for (int j = 0; j < n; j++) {
                x.at(t, i, j);
                int v = x.asked();
                signs.append(v > 0 ? '+' : v < 0 ? '-' : '0');
            }
            signs.append(i < n - 1 ? " " : "");
        }
        return signs.toString();
    }

    private static void tableIs(String what, int t, String want) {
        if (!want.equals(tableTold(t))) {
            wrong++;
            System.out.println("promise " + promise + ": " + what + " made " + tableTold(t) + ", due is " + want);
        }
    }

    // ---- 1 rows, tables

    private static void newObject() {
        begin(1);
        due("count(0)", 0, x.count(0));
        due("count(1)", 0, x.count(1));
        due("asked()", 0, x.asked());
        due("worthTold()", 0, x.worthTold());
        due("upper()", 0, x.upper());
        due("lower()", 1, x.lower());
        due("finding()", 0, x.finding());
        for (int f = 1; f <= 5; f++) {
            due("findings", 0, x.findings(f));
        }
        for (int r = 0; r < 6; r++) {
            int row = r;
            finds("tear", NOTHING, () -> x.tear(row));
        }
        for (int t = 0; t < 10; t++) {
            int table = t;
            finds("drop", NOTHING, () -> x.drop(table));
        }
    }

    private static void rows() {
        begin(2);
        due("row(0, 24)", 24, x.row(0, 24));
        due("row(5, 0)", 0, x.row(5, 0));
        due("row(2, 3)", 3, x.row(2, 3));
        rowIs("row(2, 3)", 2, 1, 1, 1);
        x.lay(2, 0, 7);
        due("row anew", 2, x.row(2, 2));
        rowIs("row anew", 2, 1, 1);
        bad("row(-1, 0)", () -> x.row(-1, 0));
        bad("row(6, 0)", () -> x.row(6, 0));
        bad("row(0, 25)", () -> x.row(0, 25));
        bad("row(6, -1)", () -> x.row(6, -1));
        finds("row(0, -1)", SIZE, () -> x.row(0, -1));
        finds("row least", SIZE, () -> x.row(0, Integer.MIN_VALUE));

        begin(3);
        finds("lay missing", NOTHING, () -> x.lay(0, 5, 5));
        x.row(0, 2);
        asks("lay(0, 1, 9)", 1, x.lay(0, 1, 9));
        asks("lay(0, 1, least)", 9, x.lay(0, 1, Integer.MIN_VALUE));
        asks("lay(0, 1, 0)", Integer.MIN_VALUE, x.lay(0, 1, 0));
        finds("lay(0, 2, 0)", BEYOND, () -> x.lay(0, 2, 0));
        finds("lay(0, -1, 0)", BEYOND, () -> x.lay(0, -1, 0));
        bad("lay(6, 0, 0)", () -> x.lay(6, 0, 0));
        bad("lay(-1, 0, 0)", () -> x.lay(-1, 0, 0));

        begin(4);
        x.row(3, 2);
        due("tear(3)", 1, x.tear(3));
        due("count", 0, x.count(0));
        finds("tear(3)", NOTHING, () -> x.tear(3));
        finds("lay torn", NOTHING, () -> x.lay(3, 0, 1));
        bad("tear(6)", () -> x.tear(6));
        bad("tear(-1)", () -> x.tear(-1));
    }

    private static void copies() {
        begin(5);
        layRow(0, 1, 2, 3, 4, 5);
        layRow(1, 10, 20, 30);
        due("copy", 1, x.copy(0, 3, 1, 1, 2));
        rowIs("copy", 1, 10, 4, 5);
        due("copy ahead", 1, x.copy(0, 0, 0, 1, 4));
        rowIs("copy ahead", 0, 1, 1, 2, 3, 4);
        due("copy back", 1, x.copy(0, 1, 0, 0, 4));
        rowIs("copy back", 0, 1, 2, 3, 4, 4);
        due("copy none at the end", 1, x.copy(0, 5, 1, 3, 0));
        finds("copy beyond from", BEYOND, () -> x.copy(0, 4, 1, 0, 2));
        finds("copy beyond to", BEYOND, () -> x.copy(0, 0, 1, 2, 2));
        finds("copy none beyond", BEYOND, () -> x.copy(0, 6, 1, 0, 0));
        finds("copy -1", BEYOND, () -> x.copy(0, -1, 1, 0, 1));
        finds("copy to -1", BEYOND, () -> x.copy(0, 0, 1, -1, 1));
        finds("copy far", BEYOND, () -> x.copy(0, Integer.MAX_VALUE, 1, 0, 1));
        finds("copy many", BEYOND, () -> x.copy(0, 1, 1, 0, Integer.MAX_VALUE));
        finds("copy missing", NOTHING, () -> x.copy(2, 0, 1, 0, 1));
        finds("copy to missing", NOTHING, () -> x.copy(1, 9, 2, 0, 1));
        finds("copy fewer than none", SIZE, () -> x.copy(2, 0, 3, 0, -1));
        bad("copy(6)", () -> x.copy(6, 0, 0, 0, -1));
        bad("copy(.., -1)", () -> x.copy(0, 0, -1, 0, 0));
    }

    private static void means() {
        begin(6);
        layRow(0, 1, 2, 5);
        asks("mean", 2, x.mean(0));
        layRow(0, -1, -2, -5);
        asks("mean below 0", -2, x.mean(0));
        layRow(0, Integer.MAX_VALUE, Integer.MAX_VALUE, Integer.MAX_VALUE);
        asks("mean of the greatest", Integer.MAX_VALUE, x.mean(0));
        layRow(0, Integer.MIN_VALUE, Integer.MIN_VALUE);
        asks("mean of the least", Integer.MIN_VALUE, x.mean(0));
        x.row(1, 0);
        finds("mean of none", NOUGHT, () -> x.mean(1));
        finds("mean missing", NOTHING, () -> x.mean(2));
        bad("mean(6)", () -> x.mean(6));
        bad("mean(-1)", () -> x.mean(-1));
    }

    private static void tables() {
        begin(7);
        due("table(0, 1)", 2, x.table(0, 1));
        due("table(9, 12)", 0, x.table(9, 12));
        due("table(1, 2)", 0, x.table(1, 2));
        tableIs("table(1, 2)", 1, "++ ++");
        x.set(1, 0, 0, -1, false);
        due("table anew", 0, x.table(1, 3));
        tableIs("table anew", 1, "+++ +++ +++");
        bad("table(0, 0)", () -> x.table(0, 0));
        bad("table(0, 13)", () -> x.table(0, 13));
        bad("table(0, -1)", () -> x.table(0, -1));
        bad("table(10, 1)", () -> x.table(10, 1));
        bad("table(-1, 1)", () -> x.table(-1, 1));

        begin(10);
        x.table(4, 3);
        due("drop(4)", 1, x.drop(4));
        due("count", 0, x.count(1));
        finds("drop(4)", NOTHING, () -> x.drop(4));
        finds("at dropped", NOTHING, () -> x.at(4, 0, 0));
        bad("drop(10)", () -> x.drop(10));
        bad("drop(-1)", () -> x.drop(-1));
    }

    private static void puts() {
        begin(8);
        x.table(0, 2);
        layRow(0, 1, -1);
        due("put", 1, x.put(0, 1, 0));
        tableIs("put", 0, "++ +-");
        layRow(0, 0, 1);
        due("put 0", 0, x.put(0, 0, 0));
        tableIs("put 0", 0, "0+ +-");
        finds("put beyond", BEYOND, () -> x.put(0, 2, 0));
        finds("put -1", BEYOND, () -> x.put(0, -1, 0));
        finds("put row missing", NOTHING, () -> x.put(0, 9, 1));
        finds("put table missing", NOTHING, () -> x.put(1, 0, 0));
        layRow(2, 5, 1, 1);
        finds("put beyond ahead of size", BEYOND, () -> x.put(0, 2, 2));
        finds("put size ahead of unlike", SIZE, () -> x.put(0, 0, 2));
        layRow(2, 1, 2);
        finds("put 2", UNLIKE, () -> x.put(0, 0, 2));
        layRow(2, -2, 1);
        finds("put -2", UNLIKE, () -> x.put(0, 0, 2));
        bad("put(10)", () -> x.put(10, 0, 0));
        bad("put(-1)", () -> x.put(-1, 0, 0));
        bad("put row 6", () -> x.put(0, 0, 6));
        bad("put row -1", () -> x.put(0, 0, -1));
    }

    private static void sets() {
        begin(9);
        x.table(0, 2);
        due("set", 1, x.set(0, 0, 1, -1, false));
        tableIs("set", 0, "+- ++");
        due("set both", 0, x.set(0, 1, 0, 0, true));
        tableIs("set both", 0, "+0 0+");
        finds("set beyond", BEYOND, () -> x.set(0, 2, 0, 1, false));
        finds("set beyond j", BEYOND, () -> x.set(0, 0, 2, 1, true));
        finds("set -1", BEYOND, () -> x.set(0, -1, 0, 1, true));
        finds("set j -1", BEYOND, () -> x.set(0, 0, -1, 1, true));
        finds("set missing", NOTHING, () -> x.set(1, 5, 0, 1, false));
        bad("set 2", () -> x.set(1, 0, 0, 2, false));
        bad("set -2", () -> x.set(0, 0, 0, -2, false));
        bad("set(10)", () -> x.set(10, 0, 0, 1, false));
        bad("set(-1)", () -> x.set(-1, 0, 0, 1, false));

        begin(11);
        layTable(0, "+0 -+");
        asks("at(0, 0, 0)", 1, x.at(0, 0, 0));
        asks("at(0, 0, 1)", 0, x.at(0, 0, 1));
        asks("at(0, 1, 0)", -1, x.at(0, 1, 0));
        finds("at beyond", BEYOND, () -> x.at(0, 2, 0));
        finds("at beyond j", BEYOND, () -> x.at(0, 0, 2));
        finds("at -1", BEYOND, () -> x.at(0, -1, 0));
        finds("at j -1", BEYOND, () -> x.at(0, 0, -1));
        finds("at missing", NOTHING, () -> x.at(1, -1, 0));
        bad("at(10)", () -> x.at(10, 0, 0));
        bad("at(-1)", () -> x.at(-1, 0, 0));
    }

    private static void toldOfTables() {
        begin(12);
        layTable(0, "+++ +-0 +--");
        asks("told 0", 0, x.told(0, 0));
        asks("told 1", 3, x.told(0, 1));
        asks("told 2", 5, x.told(0, 2));
        asks("told 3", 3, x.told(0, 3));
        asks("told 4: a 0 is no sign", 0, x.told(0, 4));
        x.set(0, 1, 2, -1, false);
        asks("told 4", 1, x.told(0, 4));
        x.set(0, 2, 0, -1, false);
        asks("told 4: column 0", 0, x.told(0, 4));
        x.set(0, 2, 0, 1, false);
        x.set(0, 0, 2, -1, false);
        asks("told 4: row 0", 0, x.told(0, 4));
        finds("told missing", NOTHING, () -> x.told(1, 4));
        bad("told 5", () -> x.told(0, 5));
        bad("told -1", () -> x.told(1, -1));
        bad("told(10)", () -> x.told(10, 0));
        bad("told(-1)", () -> x.told(-1, 0));
    }

    private static void kinds() {
        begin(12);
        due("one 1", 2, layTable(0, "+"));
        due("one -1", 2, layTable(0, "-"));
        due("one 0", 4, layTable(0, "0"));
        due("a SQUARE", 1, layTable(0, "-+ ++"));
        due("a ROUND", 2, layTable(0, "-+++ +-++ ++-+ +++-"));
        due("moved to the left", 1, layTable(0, "+++- ++-+ +-++ -+++"));
        due("round, not balanced", 0, layTable(0, "-+ +-"));
        due("an EVEN ring of 4", 4, layTable(0, "0-+- -0-+ +-0- -+-0"));
        due("an EVEN pair of pairs", 4, layTable(0, "0-++ -0++ ++0- ++-0"));
        due("a path is a GRAPH", 3, layTable(0, "0-+ -0- +-0"));
        due("not like (j, i)", 0, layTable(0, "0-+ +0- +-0"));
        due("0 off the diagonal", 0, layTable(0, "00 00"));
        due("not 0 at (1, 1)", 0, layTable(0, "0+ ++"));
        due("a ring of 6: regular, not EVEN", 3,
                layTable(0, "0-+++- -0-+++ +-0-++ ++-0-+ +++-0- -+++-0"));
        due("two triangles", 4, layTable(0, "0--+++ -0-+++ --0+++ +++0-- +++-0- +++--0"));
        due("joined ones alike, the others not", 3, layTable(0,
                "0-++++- -0-++++ +-0-+++ ++-0-++ +++-0-+ ++++-0- -++++-0"));
        due("a prism: the others alike, joined ones not", 3,
                layTable(0, "0---++ -0-+-+ --0++- -++0-- +-+-0- ++---0"));
    }

    private static void marks() {
        begin(13);
        layTable(0, "-+++ +-++ ++-+ +++-");
        due("mark SQUARE of a ROUND", 2, x.mark(0, 1));
        due("mark ROUND", 2, x.mark(0, 2));
        finds("mark GRAPH of a ROUND", UNLIKE, () -> x.mark(0, 3));
        finds("mark EVEN of a ROUND", UNLIKE, () -> x.mark(0, 4));
        layTable(1, "++ +-");
        due("mark SQUARE", 1, x.mark(1, 1));
        finds("mark ROUND of a SQUARE", UNLIKE, () -> x.mark(1, 2));
        x.table(2, 1);
        due("mark SQUARE of 1, cut", 0, x.mark(2, 1));
        due("mark ROUND of 1", 1, x.mark(2, 2));
        x.set(2, 0, 0, -1, false);
        due("mark ROUND of -1", -1, x.mark(2, 2));
        layTable(3, "0-+ -0- +-0");
        due("mark GRAPH", 2, x.mark(3, 3));
        finds("mark EVEN of a GRAPH", UNLIKE, () -> x.mark(3, 4));
        finds("mark SQUARE of a GRAPH", UNLIKE, () -> x.mark(3, 1));
        layTable(3, "0-- -0- --0");
        due("mark GRAPH of an EVEN one", 3, x.mark(3, 3));
        due("mark EVEN", 2, x.mark(3, 4));
        x.table(4, 3);
        for (int kind = 1; kind <= 4; kind++) {
            int asked = kind;
            finds("mark of a TABLE", UNLIKE, () -> x.mark(4, asked));
        }
        finds("mark missing", NOTHING, () -> x.mark(5, 1));
        bad("mark 0", () -> x.mark(0, 0));
        bad("mark 5", () -> x.mark(5, 5));
        bad("mark(10)", () -> x.mark(10, 1));
        bad("mark(-1)", () -> x.mark(-1, 1));
    }

    // ---- 2 squares

    private static void products() {
        begin(14);
        layTable(0, "+- 0+");
        layTable(1, "0-- ++0 -+-");
        due("times", 0, x.times(0, 1, 2));
        tableIs("times", 2, "0--0++ ++0--0 -+-+-+ 0000-- 000++0 000-+-");
        due("times, the other first", 0, x.times(1, 0, 2));
        tableIs("times, the other first", 2, "00-+-+ 000-0- +-+-00 0+0+00 -++--+ 0-0+0-");
        due("times onto itself", 0, x.times(0, 0, 0));
        tableIs("times onto itself", 0, "+--+ 0+0- 00+- 000+");
        due("times of 12", 0, x.times(0, 1, 1));
        asks("times of 12", 12, x.told(1, 1));
        finds("times of 48", SIZE, () -> x.times(0, 1, 5));
        finds("times of 16", SIZE, () -> x.times(0, 0, 0));
        finds("times missing", NOTHING, () -> x.times(9, 0, 0));
        finds("times missing other", NOTHING, () -> x.times(1, 9, 0));
        bad("times(10)", () -> x.times(10, 0, 0));
        bad("times(.., 10)", () -> x.times(0, 10, 0));
        bad("times to 10", () -> x.times(0, 0, 10));
        bad("times(-1)", () -> x.times(-1, 0, 0));
        bad("times(.., -1)", () -> x.times(0, -1, 0));
        bad("times to -1", () -> x.times(9, 0, -1));
        layTable(7, "++ +-");
        due("times of SQUARES", 1, x.times(7, 7, 8));
        tableIs("times of SQUARES", 8, "++++ +-+- ++-- +--+");
    }

    private static void primes() {
        begin(15);
        due("residues 3", 0, x.residues(0, 3));
        tableIs("residues 3", 0, "0+- -0+ +-0");
        due("residues 5", 4, x.residues(0, 5));
        tableIs("residues 5", 0, "0+--+ +0+-- -+0+- --+0+ +--+0");
        due("residues 7", 0, x.residues(9, 7));
        tableIs("residues 7", 9,
                "0++-+-- -0++-+- --0++-+ +--0++- -+--0++ +-+--0+ ++-+--0");
        due("residues 11", 0, x.residues(1, 11));
        x.told(1, 2);
        due("as many squares as not", 55, x.asked());

        begin(15);
        layTable(0, "+- 0+");
        int[] primes = {3, 5, 7, 11};
        for (int p = -3; p <= 14; p++) {
            int number = p;
            if (java.util.Arrays.binarySearch(primes, p) < 0) {
                bad("residues(0, " + p + ")", () -> x.residues(0, number));
            }
        }
        bad("residues(10, 3)", () -> x.residues(10, 3));
        bad("residues(-1, 3)", () -> x.residues(-1, 3));

        begin(16);
        due("bordered 3", 1, x.bordered(0, 3));
        tableIs("bordered 3", 0, "++++ -++- --++ -+-+");
        due("bordered 7", 1, x.bordered(0, 7));
        tableIs("bordered 7", 0,
                "++++++++ -+++-+-- --+++-+- ---+++-+ -+--+++- --+--+++ -+-+--++ -++-+--+");
        due("bordered 11", 1, x.bordered(9, 11));

        begin(16);
        layTable(0, "+- 0+");
        for (int p = -3; p <= 14; p++) {
            int number = p;
            if (p != 3 && p != 7 && p != 11) {
                bad("bordered(0, " + p + ")", () -> x.bordered(0, number));
            }
        }
        bad("bordered(10, 3)", () -> x.bordered(10, 3));
        bad("bordered(-1, 3)", () -> x.bordered(-1, 3));
    }

    private static void fourRounds() {
        begin(17);
        layRow(0, 1);
        layRow(1, -1);
        due("four of 1", 1, x.four(0, 0, 0, 0, 1));
        tableIs("four of 1", 0, "+++- -+++ --+- +-++");
        due("four of 1, which is which", 1, x.four(0, 1, 0, 0, 0));
        tableIs("four of 1, which is which", 0, "-+++ ---+ -+-- --+-");
        layRow(0, 1, 1);
        layRow(1, 1, -1);
        due("four of 2", 1, x.four(1, 0, 1, 0, 1));
        tableIs("four of 2", 1, fourByHand(new int[][] {{1, 1}, {1, -1}, {1, 1}, {1, -1}}));
        layRow(2, 1, 1, 1);
        layRow(3, -1, 1, 1);
        due("four of 3", 1, x.four(2, 2, 3, 3, 3));
        tableIs("four of 3", 2, fourByHand(new int[][] {{1, 1, 1}, {-1, 1, 1}, {-1, 1, 1}, {-1, 1, 1}}));
        foursRefused();
        foursOfNoRows();
    }

    private static void foursRefused() {
        begin(17);
        layTable(2, "+- 0+");
        layRow(0, 1, 1);
        layRow(1, 1, -1);
        layRow(2, 1, 1, 1);
        layRow(3, -1, 1, 1);
        refuses("four do not FIT", SignSquares.STATE, () -> x.four(2, 2, 2, 2, 2));
        refuses("four of 2 do not FIT", SignSquares.STATE, () -> x.four(5, 0, 0, 0, 1));
        layRow(4, 1, 1, -1);
        finds("four not backwards", UNLIKE, () -> x.four(2, 2, 2, 2, 4));
        layRow(4, 2, 1, 1);
        finds("four no SIGNS", UNLIKE, () -> x.four(2, 4, 2, 2, 2));
        layRow(4, 1, 0, 0);
        finds("four no SIGNS, backwards", UNLIKE, () -> x.four(2, 2, 4, 2, 2));
        finds("four not as many", SIZE, () -> x.four(2, 4, 2, 2, 0));
        finds("four not as many b", SIZE, () -> x.four(2, 2, 0, 2, 2));
        finds("four not as many c", SIZE, () -> x.four(2, 2, 2, 0, 2));
        x.row(5, 0);
        finds("four none", SIZE, () -> x.four(2, 5, 5, 5, 5));
        x.row(5, 4);
        finds("four of 4", SIZE, () -> x.four(2, 5, 5, 5, 5));
    }

    private static void foursOfNoRows() {
        begin(17);
        layTable(2, "+- 0+");
        layRow(0, 1, 1);
        layRow(2, 1, 1, 1);
        finds("four missing a", NOTHING, () -> x.four(2, 5, 0, 2, 2));
        finds("four missing b", NOTHING, () -> x.four(2, 0, 5, 2, 2));
        finds("four missing c", NOTHING, () -> x.four(2, 0, 2, 5, 2));
        finds("four missing d", NOTHING, () -> x.four(2, 0, 2, 2, 5));
        bad("four(10)", () -> x.four(10, 0, 0, 0, 0));
        bad("four(-1)", () -> x.four(-1, 0, 0, 0, 0));
        bad("four a", () -> x.four(0, 6, 5, 0, 0));
        bad("four b", () -> x.four(0, 0, 6, 0, 0));
        bad("four c", () -> x.four(0, 0, 0, -1, 0));
        bad("four d", () -> x.four(0, 0, 0, 0, 6));
    }

    private static String fourByHand(int[][] rounds) {
        String[] parts = {"+0+1+2+3", "-1+0-3+2", "-2+3+0-1", "-3-2+1+0"};
        int m = rounds[0].length;
        StringBuilder signs = new StringBuilder();
        for (int i = 0; i < 4 * m; i++) {
            for (int j = 0; j < 4 * m; j++) {
                String line = parts[i / m];
                int sign = line.charAt(j / m * 2) == '+' ? 1 : -1;
                int[] round = rounds[line.charAt(j / m * 2 + 1) - '0'];
                signs.append(sign * round[Math.floorMod(j % m - i % m, m)] > 0 ? '+' : '-');
            }
            signs.append(i < 4 * m - 1 ? " " : "");
        }
        return signs.toString();
    }

    private static void turning() {
        begin(18);
        layTable(0, "+0+ --+ ++-");
        due("turn", 0, x.turn(0, 0b110, 0b001));
        tableIs("turn", 0, "-0+ -+- +-+");
        due("turn nothing", 0, x.turn(0, 0, 0));
        tableIs("turn nothing", 0, "-0+ -+- +-+");
        bad("turn rows beyond", () -> x.turn(0, 8, 0));
        bad("turn columns beyond", () -> x.turn(0, 0, 8));
        bad("turn rows below 0", () -> x.turn(0, -1, 0));
        bad("turn columns below 0", () -> x.turn(0, 0, Integer.MIN_VALUE));
        finds("turn missing ahead of bits", NOTHING, () -> x.turn(1, -1, 1 << 12));
        bad("turn(10)", () -> x.turn(10, 0, 0));
        bad("turn(-1)", () -> x.turn(-1, 0, 0));
        layTable(2, "-+++ +-++ ++-+ +++-");
        due("turn: no ROUND now", 1, x.turn(2, 1, 0));
        due("turn: a ROUND again", 2, x.turn(2, 1, 0));
        layTable(2, "0- -0");
        due("turn: no EVEN one now", 0, x.turn(2, 1, 0));
        due("turn: an EVEN one, not joined", 4, x.turn(2, 0b10, 0));
        layTable(2, "0-+ -0+ ++0");
        due("turn 12", 0, x.table(3, 12));
        due("turn 12", 0, x.turn(3, 4095, 4095));
        bad("turn 12 beyond", () -> x.turn(3, 4096, 0));

        begin(19);
        layTable(0, "+0+ --+ ++-");
        due("swap rows", 0, x.swap(0, false, 0, 2));
        tableIs("swap rows", 0, "++- --+ +0+");
        due("swap columns", 0, x.swap(0, true, 0, 2));
        tableIs("swap columns", 0, "-++ +-- +0+");
        due("swap with itself", 0, x.swap(0, true, 1, 1));
        due("swap with itself", 0, x.swap(0, false, 1, 1));
        tableIs("swap with itself", 0, "-++ +-- +0+");
        finds("swap beyond", BEYOND, () -> x.swap(0, true, 0, 3));
        finds("swap beyond i", BEYOND, () -> x.swap(0, false, 3, 0));
        finds("swap -1", BEYOND, () -> x.swap(0, false, -1, 0));
        finds("swap j -1", BEYOND, () -> x.swap(0, true, 0, -1));
        finds("swap missing", NOTHING, () -> x.swap(1, true, -1, 0));
        bad("swap(10)", () -> x.swap(10, true, 0, 0));
        bad("swap(-1)", () -> x.swap(-1, true, 0, 0));
        layTable(1, "-+++ +-++ ++-+ +++-");
        due("swap: no ROUND now", 1, x.swap(1, true, 0, 1));
        due("swap: a ROUND again", 2, x.swap(1, false, 0, 1));

        begin(20);
        layTable(0, "+0+ --+ ++-");
        due("flip", 0, x.flip(0));
        tableIs("flip", 0, "+-+ 0-+ ++-");
        layTable(1, "0-+ -0- +-0");
        due("flip a GRAPH", 3, x.flip(1));
        finds("flip missing", NOTHING, () -> x.flip(2));
        bad("flip(10)", () -> x.flip(10));
        bad("flip(-1)", () -> x.flip(-1));
    }

    private static void normals() {
        begin(21);
        layTable(0, "--+ +-+ +++");
        due("normal", 4, x.normal(0));
        tableIs("normal", 0, "+++ +-- ++-");
        due("normal again", 0, x.normal(0));
        asks("normal", 1, x.told(0, 4));
        x.set(0, 2, 2, 0, false);
        finds("normal of a 0", UNLIKE, () -> x.normal(0));
        finds("normal missing", NOTHING, () -> x.normal(1));
        bad("normal(10)", () -> x.normal(10));
        bad("normal(-1)", () -> x.normal(-1));
        layTable(1, "-+++ +-++ ++-+ +++-");
        due("normal of a ROUND", 4, x.normal(1));
        asks("normal: no ROUND now", 1, x.told(1, 0));
        layTable(2, "-");
        due("normal of -1", 1, x.normal(2));
        tableIs("normal of -1", 2, "+");
    }

    private static void worths() {
        begin(22);
        layTable(0, "+");
        due("worth", 1, x.worth(0));
        due("worth of 1", 1, x.worthTold());
        layTable(0, "0-+ +0- -+0");
        x.worth(0);
        due("worth of a skew one", 0, x.worthTold());
        layTable(0, "+-0 ++- -++");
        x.worth(0);
        due("worth by hand", 2, x.worthTold());
        layTable(0, "0+ +0");
        x.worth(0);
        due("worth of an exchange", -1, x.worthTold());
        x.bordered(0, 11);
        x.worth(0);
        due("worth of 12", 2985984, x.worthTold());
        finds("worth missing", NOTHING, () -> x.worth(1));
        due("worthTold stays", 2985984, x.worthTold());
        bad("worth(10)", () -> x.worth(10));
        bad("worth(-1)", () -> x.worth(-1));
        x.form(0, 12);
        due("worthTold by form", 1, x.worthTold());
    }

    private static void balances() {
        begin(23);
        layTable(0, "++0 +-0 00+");
        due("balanced", 3, x.balanced(0));
        layTable(0, "+++ +-0 +++");
        due("balanced in two", 2, x.balanced(0));
        x.table(0, 3);
        due("balanced: none", 0, x.balanced(0));
        x.bordered(0, 11);
        due("balanced: all", 66, x.balanced(0));
        x.table(0, 1);
        due("balanced: one row", 0, x.balanced(0));
        finds("balanced missing", NOTHING, () -> x.balanced(1));
        bad("balanced(10)", () -> x.balanced(10));
        bad("balanced(-1)", () -> x.balanced(-1));
    }

    private static void commons() {
        begin(24);
        layTable(0, "--+ ++- +++");
        due("common of one", 1, x.common(0, 1));
        due("common of the last", 3, x.common(0, 4));
        due("common of two", 3, x.common(0, 3));
        due("common of all", 3, x.common(0, 7));
        due("common of 0 and 2", 1, x.common(0, 5));
        finds("common of no row", BEYOND, () -> x.common(0, 0));
        finds("common beyond", BEYOND, () -> x.common(0, 8));
        finds("common below 0", BEYOND, () -> x.common(0, -1));
        x.set(0, 0, 0, 0, false);
        finds("common: UNLIKE ahead of BEYOND", UNLIKE, () -> x.common(0, 0));
        finds("common: a 0 in a row that is not asked", UNLIKE, () -> x.common(0, 4));
        finds("common missing", NOTHING, () -> x.common(1, 0));
        bad("common(10)", () -> x.common(10, 1));
        bad("common(-1)", () -> x.common(-1, 1));
    }

    private static void profiles() {
        begin(25);
        x.table(0, 5);
        due("profile 2", 10, x.profile(0, 2, 5));
        due("profile 3", 10, x.profile(0, 3, 5));
        due("profile 4", 5, x.profile(0, 4, 5));
        due("profile of another", 0, x.profile(0, 4, 3));
        due("profile beyond n", 0, x.profile(0, 4, 12));
        x.set(0, 0, 0, -1, false);
        due("profile 2 of 3", 4, x.profile(0, 2, 3));
        due("profile 2 of 5", 6, x.profile(0, 2, 5));
        x.table(1, 2);
        due("profile of fewer rows", 0, x.profile(1, 3, 2));
        due("profile of just so many", 1, x.profile(1, 2, 2));
        x.set(1, 0, 0, 0, false);
        finds("profile of a 0", UNLIKE, () -> x.profile(1, 2, 0));
        finds("profile missing", NOTHING, () -> x.profile(2, 2, 0));
        bad("profile k 1", () -> x.profile(0, 1, 0));
        bad("profile k 5", () -> x.profile(2, 5, 0));
        bad("profile c -1", () -> x.profile(0, 2, -1));
        bad("profile c 13", () -> x.profile(0, 2, 13));
        bad("profile(10)", () -> x.profile(10, 2, 0));
        bad("profile(-1)", () -> x.profile(-1, 2, 0));
    }

    private static void likes() {
        begin(26);
        layTable(0, "+++ +++ +++");
        layTable(1, "+++ ++- +++");
        due("mayBeLike: not", 0, x.mayBeLike(0, 1));
        due("mayBeLike itself", 1, x.mayBeLike(1, 1));
        layTable(2, "-++ +++ +++");
        due("mayBeLike", 1, x.mayBeLike(1, 2));
        layTable(3, "++++ ++++ ++-- ++--");
        layTable(4, "++++ ++++ ++-- ++--");
        x.swap(4, true, 0, 3);
        due("mayBeLike in another order", 1, x.mayBeLike(3, 4));
        layTable(5, "++++ ++++ ++++ ++--");
        layTable(6, "++++ ++++ +++- +++-");
        due("mayBeLike: not by columns, either", 0, x.mayBeLike(5, 6));
        finds("mayBeLike of another size", UNLIKE, () -> x.mayBeLike(0, 3));
        x.set(0, 0, 0, 0, false);
        finds("mayBeLike of a 0", UNLIKE, () -> x.mayBeLike(0, 1));
        finds("mayBeLike of another 0", UNLIKE, () -> x.mayBeLike(1, 0));
        finds("mayBeLike missing", NOTHING, () -> x.mayBeLike(9, 0));
        finds("mayBeLike other missing", NOTHING, () -> x.mayBeLike(0, 9));
        bad("mayBeLike(10)", () -> x.mayBeLike(10, 0));
        bad("mayBeLike(.., -1)", () -> x.mayBeLike(0, -1));

        begin(26);
        differInOneProfile("rows by 2",
                "+++++++ +---+-+ ++++++- ++-+++- +++++-+ +----+- +--+-+-",
                "+++++++ +--+--- +++-+-+ ++----+ +++--++ ++---+- +++--++");
        differInOneProfile("rows by 4",
                "+++++++ +--+--+ ++++--+ +++-+-- +++--++ +-----+ ++----+",
                "+++++++ +-++-++ ++---+- +++-+-- +++-++- +++++-+ ++-+++-");
        differInOneProfile("columns by 2",
                "+++++++ ++----+ +-++-++ +-++--+ ++-+--+ +------ ++++-++",
                "+++++++ ++++-++ +----+- +++++-+ ++--+-+ +-+-++- +++-+-+");
        differInOneProfile("columns by 4",
                "+++++++ +--++++ +----+- ++++-++ ++-+--+ +++---+ ++++-+-",
                "+++++++ +-+-+-- +++-++- ++-+--+ +-+--+- +-+--++ ++--++-");

        begin(27);
        layTable(0, "++++ ++++ ++++ +++-");
        layTable(1, "++++ +-++ ++++ ++++");
        due("like", 1, x.like(0, 1));
        due("turned", 0, x.turn(1, 6, 9));
        due("like, turned", 1, x.like(0, 1));
        layTable(2, "++++ ++++ ++++ ++--");
        due("like: not", 0, x.like(0, 2));
        layTable(3, "++++ ++++ +++- +++-");
        due("like: rows for columns are not asked for", 0, x.like(2, 3));
        layTable(2, "++++ +-+- +--+ ++++");
        layTable(3, "++++ +-+- ++-+ +-++");
        due("like: not, by columns that all differ", 0, x.like(2, 3));
        layTable(2, "++++ +-++ ++++ ++++");
        layTable(3, "++++ +--+ +-++ ++++");
        due("like: not, by one sign", 0, x.like(2, 3));
        layTable(2, "++-+ -+++ +--+ ++++");
        layTable(3, "++++ ++-+ +-+- -+++");
        due("like: not in any order", 0, x.like(2, 3));
        layTable(3, "++-+ -+++ +--+ ++++");
        x.swap(3, false, 0, 2);
        x.swap(3, false, 1, 3);
        x.swap(3, true, 0, 1);
        x.swap(3, true, 1, 3);
        x.turn(3, 0b1011, 0b0110);
        due("like in another order", 1, x.like(2, 3));
        layTable(4, "-");
        layTable(5, "+");
        due("like of 1", 1, x.like(4, 5));
        layTable(4, "++ ++");
        layTable(5, "++ +-");
        due("like of 2: not", 0, x.like(4, 5));
        layTable(4, "-- -+");
        due("like of 2", 1, x.like(4, 5));
        finds("like of another size", UNLIKE, () -> x.like(0, 4));
        x.table(6, 5);
        finds("like: UNLIKE ahead of SIZE", UNLIKE, () -> x.like(6, 0));
        finds("like of 5", SIZE, () -> x.like(6, 6));
        x.set(6, 0, 0, 0, false);
        finds("like of 5 with a 0", UNLIKE, () -> x.like(6, 6));
        x.set(4, 0, 0, 0, false);
        finds("like of a 0", UNLIKE, () -> x.like(5, 4));
        finds("like missing", NOTHING, () -> x.like(9, 0));
        finds("like other missing", NOTHING, () -> x.like(0, 9));
        bad("like(10)", () -> x.like(10, 0));
        bad("like(.., -1)", () -> x.like(0, -1));
    }

    private static void differInOneProfile(String which, String one, String other) {
        layTable(7, one);
        layTable(8, other);
        due("mayBeLike: not, but for " + which, 0, x.mayBeLike(7, 8));
        due("mayBeLike: not, the other way, but for " + which, 0, x.mayBeLike(8, 7));
    }

    private static void excessesAndPeaks() {
        begin(28);
        layTable(0, "+- -+");
        due("excess", 4, x.excess(0));
        due("excess asked: the least", 1, x.asked());
        layTable(0, "++ +-");
        due("excess of a SQUARE", 2, x.excess(0));
        due("excess of a SQUARE asked", 0, x.asked());
        layTable(0, "00 00");
        due("excess of 0", 0, x.excess(0));
        layTable(0, "+-+ --+ +0-");
        due("excess of any", 6, x.excess(0));
        due("excess of any asked", 3, x.asked());
        layTable(0, "-");
        due("excess of -1", 1, x.excess(0));
        due("excess of -1 asked", 0, x.asked());
        finds("excess missing", NOTHING, () -> x.excess(1));
        bad("excess(10)", () -> x.excess(10));
        bad("excess(-1)", () -> x.excess(-1));

        begin(29);
        x.table(0, 4);
        due("peak", 0, x.peak(0));
        due("peak asked: the first", 3, x.asked());
        x.table(0, 1);
        due("peak of 1", 1, x.peak(0));
        due("peak of 1 asked", 0, x.asked());
        layTable(0, "++ +-");
        due("peak of a SQUARE", 2, x.peak(0));
        layTable(0, "00 00");
        due("peak of 0", 0, x.peak(0));
        x.table(0, 12);
        due("peak of 12", 0, x.peak(0));
        due("peak of 12 asked", 63, x.asked());
        finds("peak missing", NOTHING, () -> x.peak(1));
        due("asked stays", 63, x.asked());
        bad("peak(10)", () -> x.peak(10));
        bad("peak(-1)", () -> x.peak(-1));
    }

    private static void blocks() {
        begin(30);
        layTable(0, "++++ +-+- ++-- +--+");
        due("block 0", 0b010, x.block(0, 0));
        due("block 1", 0b001, x.block(0, 1));
        due("block 2", 0b100, x.block(0, 2));
        x.turn(0, 0b0101, 0b1001);
        String before = tableTold(0);
        due("block 0, turned", 0b010, x.block(0, 0));
        due("block 1, turned", 0b001, x.block(0, 1));
        due("block 2, turned", 0b100, x.block(0, 2));
        tableIs("block changes nothing", 0, before);
        finds("block beyond", BEYOND, () -> x.block(0, 3));
        finds("block -1", BEYOND, () -> x.block(0, -1));
        layTable(1, "++ +-");
        finds("block of 2", SIZE, () -> x.block(1, 9));
        x.table(1, 4);
        finds("block of no SQUARE", UNLIKE, () -> x.block(1, 9));
        finds("block missing", NOTHING, () -> x.block(2, 9));
        bad("block(10)", () -> x.block(10, 0));
        bad("block(-1)", () -> x.block(-1, 0));
        layTable(1, "-+++ +-++ ++-+ +++-");
        due("block of a ROUND", 0b001, x.block(1, 0));
        x.bordered(3, 11);
        for (int i = 0; i < 11; i++) {
            due("block of 12: size", 5, Integer.bitCount(x.block(3, i)));
            for (int j = 0; j < i; j++) {
                due("block of 12: shared", 2, Integer.bitCount(x.block(3, i) & x.block(3, j)));
            }
        }
    }

    // ---- 3 echoes

    private static void echoes() {
        begin(31);
        layRow(0, 1, 1, -1, 1);
        asks("echo 0", 4, x.echo(0, 0, false));
        asks("echo 1", -1, x.echo(0, 1, false));
        asks("echo 2", 0, x.echo(0, 2, false));
        asks("echo 3", 1, x.echo(0, 3, false));
        asks("round echo 0", 4, x.echo(0, 0, true));
        asks("round echo 1", 0, x.echo(0, 1, true));
        asks("round echo 2", 0, x.echo(0, 2, true));
        asks("round echo 3", 0, x.echo(0, 3, true));
        finds("echo beyond", BEYOND, () -> x.echo(0, 4, true));
        finds("echo -1", BEYOND, () -> x.echo(0, -1, false));
        x.lay(0, 1, 0);
        finds("echo of no SIGNS", UNLIKE, () -> x.echo(0, 9, false));
        x.row(1, 0);
        finds("echo of none", SIZE, () -> x.echo(1, 0, false));
        finds("echo missing", NOTHING, () -> x.echo(2, 0, false));
        bad("echo(6)", () -> x.echo(6, 0, false));
        bad("echo(-1)", () -> x.echo(-1, 0, true));
        x.row(3, 24);
        x.lay(3, 0, -1);
        asks("echo of 24", -1, x.echo(3, 23, false));
        asks("round echo of 24", 20, x.echo(3, 23, true));
        asks("round echo of 24 at 0", 24, x.echo(3, 0, true));

        begin(32);
        layRow(0, 1, 1, -1, 1);
        due("side", 1, x.side(0));
        layRow(0, 1, -1, 1, -1);
        due("side by size", 3, x.side(0));
        layRow(0, -1);
        due("side of 1", 0, x.side(0));
        x.row(0, 24);
        due("side of 24", 23, x.side(0));
        x.lay(0, 0, 2);
        finds("side of no SIGNS", UNLIKE, () -> x.side(0));
        x.row(0, 0);
        finds("side of none", SIZE, () -> x.side(0));
        finds("side missing", NOTHING, () -> x.side(1));
        bad("side(6)", () -> x.side(6));
        bad("side(-1)", () -> x.side(-1));
    }

    private static void cancelling() {
        begin(33);
        layRow(0, 1, 1);
        layRow(1, -1, 1);
        due("cancels", 1, x.cancels(0, 1, false));
        due("tidy", 1, x.cancels(0, 1, true));
        due("cancels itself: not", 0, x.cancels(0, 0, false));
        layRow(2, 1, 1, 1, -1, 1, -1);
        layRow(3, 1, 1, -1, 1, -1, -1);
        due("cancels of 6: not", 0, x.cancels(2, 3, false));
        layRow(4, 1, 1, -1, 1);
        layRow(5, 1, 1, 1, -1);
        due("cancels of 4", 1, x.cancels(4, 5, false));
        layRow(5, 1, 1, -1, 1);
        due("tidy, does not cancel", 1, x.cancels(4, 5, true));
        due("tidy, does not cancel", 0, x.cancels(4, 5, false));
        layRow(4, -1);
        due("cancels of 1", 1, x.cancels(4, 4, false));
        due("tidy of 1", 1, x.cancels(4, 4, true));
        finds("cancels not as many", SIZE, () -> x.cancels(0, 4, false));
        layRow(4, 1, 2, 1);
        finds("cancels: SIZE ahead of UNLIKE", SIZE, () -> x.cancels(0, 4, false));
        layRow(4, 1, 2);
        finds("cancels of no SIGNS", UNLIKE, () -> x.cancels(0, 4, true));
        finds("cancels of no SIGNS", UNLIKE, () -> x.cancels(4, 0, true));
        x.row(4, 0);
        finds("cancels of none", SIZE, () -> x.cancels(4, 4, false));
        x.tear(4);
        finds("cancels missing", NOTHING, () -> x.cancels(4, 0, false));
        finds("cancels other missing", NOTHING, () -> x.cancels(0, 4, false));
        bad("cancels(6)", () -> x.cancels(6, 0, false));
        bad("cancels(.., -1)", () -> x.cancels(4, -1, false));
    }

    private static void pairsAndSides() {
        begin(34);
        int[] pairs = {4, 8, 0, 32, 0, 0, 0, 192};
        for (int n = 1; n <= 8; n++) {
            due("pairs(" + n + ")", pairs[n - 1], x.pairs(n));
        }
        bad("pairs(0)", () -> x.pairs(0));
        bad("pairs(9)", () -> x.pairs(9));
        bad("pairs(-1)", () -> x.pairs(-1));

        begin(35);
        int[] least = {0, 1, 1, 1, 1, 2, 1, 2, 2, 2, 1, 2};
        for (int n = 1; n <= 12; n++) {
            due("leastSide(" + n + ")", least[n - 1], x.leastSide(n, 3));
            due("its side", least[n - 1], x.side(3));
        }
        x.leastSide(4, 0);
        rowIs("leastSide(4)", 0, -1, 1, 1, 1);
        x.leastSide(5, 0);
        rowIs("leastSide(5)", 0, 1, -1, 1, 1, 1);
        x.leastSide(1, 0);
        rowIs("leastSide(1)", 0, 1);
        x.leastSide(2, 5);
        rowIs("leastSide(2)", 5, 1, 1);
        bad("leastSide(0)", () -> x.leastSide(0, 0));
        bad("leastSide(13)", () -> x.leastSide(13, 0));
        bad("leastSide(.., 6)", () -> x.leastSide(1, 6));
        bad("leastSide(.., -1)", () -> x.leastSide(1, -1));
    }

    private static void longerPairs() {
        begin(36);
        layRow(0, 1);
        layRow(1, -1);
        due("longer", 2, x.longer(0, 1, 2, 3));
        rowIs("longer", 2, 1, -1);
        rowIs("longer other", 3, 1, 1);
        due("longer onto itself, changed", 4, x.longer(2, 3, 3, 2));
        rowIs("longer onto itself, changed", 3, 1, -1, 1, 1);
        rowIs("longer onto itself, changed", 2, 1, -1, -1, -1);
        due("longer of one", 2, x.longer(0, 0, 0, 1));
        rowIs("longer of one", 0, 1, 1);
        rowIs("longer of one", 1, 1, -1);
        refuses("longer does not CANCEL", SignSquares.STATE, () -> x.longer(0, 0, 4, 5));
        finds("longer missing", NOTHING, () -> x.longer(4, 0, 1, 2));
        finds("longer other missing", NOTHING, () -> x.longer(0, 4, 1, 2));
        finds("longer not as many", SIZE, () -> x.longer(0, 2, 4, 5));
        x.row(4, 0);
        finds("longer of none", SIZE, () -> x.longer(4, 4, 0, 1));
        x.row(4, 13);
        finds("longer too long, does not CANCEL", SIZE, () -> x.longer(4, 4, 0, 1));
        x.lay(4, 0, 5);
        finds("longer too long, no SIGNS", SIZE, () -> x.longer(4, 4, 0, 1));
        x.row(4, 12);
        refuses("longer of 12 does not CANCEL", SignSquares.STATE, () -> x.longer(4, 4, 0, 1));
        x.lay(4, 0, 0);
        finds("longer of no SIGNS", UNLIKE, () -> x.longer(4, 4, 0, 1));
        bad("longer to one ROW", () -> x.longer(0, 1, 4, 4));
        bad("longer(6)", () -> x.longer(6, 1, 4, 5));
        bad("longer(.., 6)", () -> x.longer(0, -1, 4, 5));
        bad("longer to 6", () -> x.longer(0, 1, 6, 5));
        bad("longer other to 6", () -> x.longer(0, 1, 4, 6));
        layRow(0, 1, 1, -1, 1, -1, 1, -1, -1, 1, 1);
        layRow(1, 1, 1, -1, 1, 1, 1, 1, 1, -1, -1);
        due("a pair of 10", 1, x.cancels(0, 1, false));
        due("longer of 10", 20, x.longer(0, 1, 4, 5));
        due("longer of 10 cancels", 1, x.cancels(4, 5, false));
        finds("longer of 20", SIZE, () -> x.longer(4, 5, 0, 1));
    }

    // ---- 4 graphs

    private static void switching() {
        begin(37);
        layTable(0, "0-+ -0- +-0");
        due("switched", 4, x.switched(0, 0b010));
        tableIs("switched", 0, "0++ +0+ ++0");
        due("switched by node 0", 3, x.switched(0, 0b001));
        tableIs("switched by node 0", 0, "0-- -0+ -+0");
        due("switched by all", 3, x.switched(0, 0b111));
        tableIs("switched by all", 0, "0-- -0+ -+0");
        due("switched by none", 3, x.switched(0, 0));
        finds("switched beyond", BEYOND, () -> x.switched(0, 8));
        finds("switched below 0", BEYOND, () -> x.switched(0, -1));
        x.table(1, 3);
        finds("switched no GRAPH", UNLIKE, () -> x.switched(1, 8));
        finds("switched missing", NOTHING, () -> x.switched(2, 8));
        bad("switched(10)", () -> x.switched(10, 0));
        bad("switched(-1)", () -> x.switched(-1, 0));

        begin(38);
        layTable(0, "0-- -0- --0");
        due("odd of a triangle", 1, x.odd(0));
        layTable(0, "0-+ -0- +-0");
        due("odd of a path", 0, x.odd(0));
        layTable(0, "0-+ -0+ ++0");
        due("odd of an edge", 1, x.odd(0));
        x.residues(0, 5);
        due("odd of a ring", 5, x.odd(0));
        layTable(1, "0");
        due("odd of 1", 0, x.odd(1));
        x.table(1, 2);
        finds("odd of no GRAPH", UNLIKE, () -> x.odd(1));
        finds("odd missing", NOTHING, () -> x.odd(2));
        bad("odd(10)", () -> x.odd(10));
        bad("odd(-1)", () -> x.odd(-1));
    }

    private static void alikes() {
        begin(39);
        layTable(0, "0-+ -0- +-0");
        layTable(1, "0++ +0+ ++0");
        due("alike", 1, x.alike(0, 1));
        due("alike asked", 0b010, x.asked());
        layTable(2, "0-- -0- --0");
        due("alike: not", 0, x.alike(0, 2));
        due("asked stays", 0b010, x.asked());
        due("alike itself", 1, x.alike(2, 2));
        due("alike itself asked", 0, x.asked());
        layTable(3, "0-- -0+ -+0");
        due("alike without node 0", 1, x.alike(1, 3));
        due("alike without node 0 asked", 0b110, x.asked());
        layTable(4, "0- -0");
        finds("alike of another size", UNLIKE, () -> x.alike(0, 4));
        x.table(5, 3);
        finds("alike no GRAPH", UNLIKE, () -> x.alike(5, 0));
        finds("alike other no GRAPH", UNLIKE, () -> x.alike(0, 5));
        finds("alike missing", NOTHING, () -> x.alike(9, 5));
        finds("alike other missing", NOTHING, () -> x.alike(5, 9));
        bad("alike(10)", () -> x.alike(10, 0));
        bad("alike(.., -1)", () -> x.alike(0, -1));

        begin(40);
        layTable(0, "0-- -0- --0");
        due("fewest", 1, x.fewest(0));
        due("fewest asked: the least", 0b010, x.asked());
        layTable(0, "0-+ -0- +-0");
        due("fewest: none", 0, x.fewest(0));
        due("fewest: none asked", 0b010, x.asked());
        layTable(0, "0");
        due("fewest of 1", 0, x.fewest(0));
        due("fewest of 1 asked", 0, x.asked());
        x.table(1, 2);
        finds("fewest of no GRAPH", UNLIKE, () -> x.fewest(1));
        finds("fewest missing", NOTHING, () -> x.fewest(2));
        bad("fewest(10)", () -> x.fewest(10));
        bad("fewest(-1)", () -> x.fewest(-1));
    }

    private static void evens() {
        begin(41);
        x.residues(0, 5);
        int[] ring = {5, 2, 0, 1};
        for (int what = 0; what < 4; what++) {
            due("even of a ring", ring[what], x.even(0, what));
        }
        layTable(0, "0-- -0- --0");
        int[] all = {3, 2, 1, SignSquares.NONE};
        for (int what = 0; what < 4; what++) {
            due("even, all joined", all[what], x.even(0, what));
        }
        layTable(0, "0++ +0+ ++0");
        int[] none = {3, 0, SignSquares.NONE, 0};
        for (int what = 0; what < 4; what++) {
            due("even, none joined", none[what], x.even(0, what));
        }
        layTable(0, "0");
        due("even of 1", SignSquares.NONE, x.even(0, 2));
        due("even of 1", SignSquares.NONE, x.even(0, 3));
        layTable(0, "0-+ -0- +-0");
        finds("even of a GRAPH", UNLIKE, () -> x.even(0, 0));
        x.table(0, 1);
        finds("even of a ROUND", UNLIKE, () -> x.even(0, 0));
        finds("even missing", NOTHING, () -> x.even(1, 0));
        bad("even 4", () -> x.even(1, 4));
        bad("even -1", () -> x.even(0, -1));
        bad("even(10)", () -> x.even(10, 0));
        bad("even(-1)", () -> x.even(-1, 0));
    }

    private static void ownNumbers() {
        begin(42);
        x.table(0, 12);
        due("own 12", 1, x.own(0, 12));
        due("own 0", 11, x.own(0, 0));
        due("own -12", 0, x.own(0, -12));
        x.turn(0, 4095, 0);
        due("own -12, turned", 1, x.own(0, -12));
        layTable(0, "+0 0-");
        due("own 1", 1, x.own(0, 1));
        due("own -1", 1, x.own(0, -1));
        layTable(0, "++ 0+");
        due("own, though no two directions", 2, x.own(0, 1));
        layTable(0, "00 00");
        due("own of 0", 2, x.own(0, 0));
        layTable(0, "+++ 0++ 00-");
        due("own 1 of a corner", 2, x.own(0, 1));
        due("own -1 of a corner", 1, x.own(0, -1));
        layTable(0, "++0 ++0 00+");
        due("own 2", 1, x.own(0, 2));
        due("own -2", 0, x.own(0, -2));
        due("own 1", 1, x.own(0, 1));
        due("own -1", 0, x.own(0, -1));
        layTable(0, "0+ -0");
        for (int number = -12; number <= 12; number++) {
            due("own of a quarter turn", 0, x.own(0, number));
        }
        due("worthTold stays", 0, x.worthTold());
        finds("own missing", NOTHING, () -> x.own(1, 0));
        bad("own 13", () -> x.own(1, 13));
        bad("own -13", () -> x.own(0, -13));
        bad("own(10)", () -> x.own(10, 0));
        bad("own(-1)", () -> x.own(-1, 0));

        begin(43);
        layTable(0, "+- ++");
        int[] even = {2, -2, 1};
        for (int k = 0; k <= 2; k++) {
            due("form", 1, x.form(0, k));
            due("form " + k, even[k], x.worthTold());
        }
        layTable(0, "-");
        int[] odd = {-1, -1};
        for (int k = 0; k <= 1; k++) {
            due("form of -1", 1, x.form(0, k));
            due("form of -1: " + k, odd[k], x.worthTold());
        }
        finds("form beyond", BEYOND, () -> x.form(0, 2));
        finds("form far beyond", BEYOND, () -> x.form(0, Integer.MAX_VALUE));
        finds("form missing", NOTHING, () -> x.form(1, 13));
        bad("form -1", () -> x.form(0, -1));
        bad("form(10)", () -> x.form(10, 0));
        bad("form(-1)", () -> x.form(-1, 0));
    }

    private static void weights() {
        begin(44);
        layTable(0, "++++ ++++ ++-- --+-");
        due("weight", 1, x.weight(0));
        due("weight upper", 3, x.upper());
        due("weight lower", 2, x.lower());
        layTable(0, "--- +-+ 00-");
        due("weight below 0", 1, x.weight(0));
        due("weight below 0 upper", -1, x.upper());
        due("weight below 0 lower", 1, x.lower());
        layTable(0, "--0 0+- 00-");
        due("weight in thirds", 1, x.weight(0));
        due("weight in thirds upper", -1, x.upper());
        due("weight in thirds lower", 1, x.lower());
        layTable(0, "--0 0+- 000");
        due("weight in thirds", 1, x.weight(0));
        due("weight in thirds upper", -2, x.upper());
        due("weight in thirds lower", 3, x.lower());
        finds("weight missing", NOTHING, () -> x.weight(1));
        bad("weight(10)", () -> x.weight(10));
        bad("weight(-1)", () -> x.weight(-1));
        layTable(0, "+- -+");
        x.weight(0);
        due("weight 0 upper", 0, x.upper());
        due("weight 0 lower", 1, x.lower());
        x.table(0, 12);
        x.weight(0);
        due("weight 12 upper", 12, x.upper());
        due("weight 12 lower", 1, x.lower());
    }

    // ---- 5 what is told

    private static void whatIsTold() {
        begin(46);
        layRow(0, 4, 4);
        x.mean(0);
        due("asked by mean", 4, x.asked());
        x.row(1, 3);
        x.table(0, 3);
        x.worth(0);
        x.own(0, 0);
        x.normal(0);
        x.balanced(0);
        x.leastSide(4, 2);
        x.side(2);
        due("asked stays", 4, x.asked());

        begin(49);
        x.row(0, 0);
        x.row(5, 1);
        x.table(0, 1);
        x.bordered(1, 3);
        x.residues(2, 5);
        layTable(3, "0-+ -0- +-0");
        x.table(9, 2);
        due("count rows", 2, x.count(0));
        due("count tables", 5, x.count(1));
        due("count squares", 2, x.count(2));
        due("count graphs", 2, x.count(3));
        bad("count(4)", () -> x.count(4));
        bad("count(-1)", () -> x.count(-1));

        begin(51);
        x.tear(0);
        x.tear(1);
        x.row(0, 0);
        x.mean(0);
        due("finding", NOUGHT, x.finding());
        due("findings 1", 2, x.findings(1));
        due("findings 4", 1, x.findings(4));
        bad("findings(0)", () -> x.findings(0));
        bad("findings(6)", () -> x.findings(6));
        bad("findings(-1)", () -> x.findings(-1));
        due("finding stays", NOUGHT, x.finding());
    }

    private static void digests() {
        begin(52);
        long h = 17;
        for (int i = 0; i < 16; i++) {
            h = 31 * h - 1;
        }
        due("digest of a new one", h, x.digest());
        layTable(1, "0- ++");
        layRow(2, 7, -3);
        x.row(5, 0);
        int[] values = {-1, 0, 2, 0, -1, 1, 1, -1, -1, -1, -1, -1, -1, -1, -1,
                -1, -1, 2, 7, -3, -1, -1, 0};
        h = 17;
        for (int value : values) {
            h = 31 * h + value;
        }
        due("digest", h, x.digest());
        x.drop(1);
        x.tear(2);
        x.tear(5);
        due("digest of an empty one", new SignSquares().digest(), x.digest());
        x.table(0, 2);
        x.row(0, 2);
        x.drop(0);
        x.tear(0);
        due("digest keeps nothing", new SignSquares().digest(), x.digest());
        layTable(9, "0- -0");
        int[] last = {-1, -1, -1, -1, -1, -1, -1, -1, -1, 4, 2, 0, -1, -1, 0, -1, -1, -1, -1, -1, -1};
        h = 17;
        for (int value : last) {
            h = 31 * h + value;
        }
        due("digest of an EVEN one", h, x.digest());
    }
}
