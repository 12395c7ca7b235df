/** The boundaries that promises 1 to 13, and the KINDS, name. */
public final class RowEdgesTest extends Edges {
    public static void main(String[] args) {
        newObject();
        rowEdges();
        layEdges();
        tearEdges();
        copyEdges();
        copyWraps();
        meanEdges();
        tableEdges();
        putEdges();
        setEdges();
        dropEdges();
        atEdges();
        toldEdges();
        kindEdges();
        kindOfGraphs();
        markEdges();
        end();
    }

    private static void newObject() {
        beginNew(1);
        for (int what = 0; what < 4; what++) {
            due("count(" + what + ")", 0, x.count(what));
        }
        due("worthTold() before", 0, x.worthTold());
        due("asked() before", 0, x.asked());
        due("upper() before", 0, x.upper());
        due("lower() before", 1, x.lower());
        due("finding() before", 0, x.finding());
        for (int f = 1; f <= 5; f++) {
            due("findings(" + f + ") before", 0, x.findings(f));
        }
        missingRows("tear", (s, r) -> s.tear(r));
        missingTables("drop", (s, t) -> s.drop(t));
        bad("a BAD call is no FINDING", s -> s.row(6, 1));
        SignSquares other = new SignSquares();
        other.tear(0);
        other.row(0, 3);
        other.table(0, 1);
        other.told(0, 1);
        due("another object's findings are not this one's", 0, x.finding() + x.findings(NOTHING));
        due("another object's ROWS are not this one's", 0, x.count(0));
        due("another object's TABLES are not this one's", 0, x.count(1));
        due("another object's asked() is not this one's", 0, x.asked());
    }

    private static void rowEdges() {
        begin(2);
        badRow("row", (s, r) -> s.row(r, 1));
        badRow("row, n below 0", (s, r) -> s.row(r, -1));
        for (int r = 0; r < 6; r++) {
            int row = r;
            takes("row(" + r + ", 1)", 1, s -> s.row(row, 1));
            due("count(0)", r + 1, x.count(0));
        }
        takes("row(0, 24)", 24, s -> s.row(0, 24));
        rowIs("row(0, 24)", 0, many(24, 1));
        takes("row(5, 0)", 0, s -> s.row(5, 0));
        rowIs("row(5, 0)", 5);
        due("a ROW of none is there", 6, x.count(0));
        lay(1, 5, 6, 7);
        bad("row(1, 25)", s -> s.row(1, 25));
        bad("row(1, 26)", s -> s.row(1, 26));
        bad("row(1, greatest)", s -> s.row(1, GREATEST));
        finds("row(1, -1)", SIZE, s -> s.row(1, -1));
        finds("row(1, least)", SIZE, s -> s.row(1, LEAST));
        rowIs("a ROW stays when row() is refused", 1, 5, 6, 7);
        takes("row(1, 1) anew", 1, s -> s.row(1, 1));
        rowIs("row(1, 1) anew", 1, 1);
        takes("row(1, 3) anew", 3, s -> s.row(1, 3));
        rowIs("row(1, 3) keeps nothing", 1, 1, 1, 1);
        takes("tear(2)", 1, s -> s.tear(2));
        bad("row(2, 25) of a missing ROW", s -> s.row(2, 25));
        finds("row(2, -1) of a missing ROW", SIZE, s -> s.row(2, -1));
        rowIsMissing("row() refused", 2);
    }

    private static void layEdges() {
        begin(3);
        missingRows("lay", (s, r) -> s.lay(r, 0, 1));
        finds("lay: NOTHING ahead of BEYOND", NOTHING, s -> s.lay(0, -1, 1));
        badRow("lay: BAD ahead of all", (s, r) -> s.lay(r, -1, 1));
        lay(0, 1, 2, 3);
        asks("lay(0, 0, least)", 1, s -> s.lay(0, 0, LEAST));
        asks("lay(0, 2, greatest)", 3, s -> s.lay(0, 2, GREATEST));
        beyond("lay", 3, (s, i) -> s.lay(0, i, 9));
        rowIs("lay refused", 0, LEAST, 2, GREATEST);
        lay(1, many(24, 4));
        asks("the last place of all", 4, s -> s.lay(1, 23, 5));
        beyond("lay of 24", 24, (s, i) -> s.lay(1, i, 9));
        takes("row of none", 0, s -> s.row(2, 0));
        beyond("lay of none", 0, (s, i) -> s.lay(2, i, 9));
        lay(5, 8);
        asks("the last ROW", 8, s -> s.lay(5, 0, 8));
        asks("what it was, though it stays", 8, s -> s.lay(5, 0, 9));
    }

    private static void tearEdges() {
        begin(4);
        badRow("tear", (s, r) -> s.tear(r));
        missingRows("tear", (s, r) -> s.tear(r));
        for (int r = 0; r < 6; r++) {
            int row = r;
            takes("row", r, s -> s.row(row, row));
        }
        for (int r = 0; r < 6; r++) {
            int row = r;
            takes("tear(" + r + "), of none too", 1, s -> s.tear(row));
            due("one ROW less", 5 - r, x.count(0));
            rowIsMissing("torn", r);
        }
        finds("lay on a torn ROW", NOTHING, s -> s.lay(3, 0, 1));
    }

    private static void copyEdges() {
        begin(5);
        missingRows("copy from", (s, r) -> s.copy(r, 0, r, 0, 0));
        lay(0, 1, 2, 3, 4);
        lay(1, 10, 20);
        finds("copy from a missing one", NOTHING, s -> s.copy(2, 0, 0, 0, 0));
        finds("copy to a missing one", NOTHING, s -> s.copy(0, 0, 5, 0, 0));
        finds("copy: NOTHING ahead of BEYOND", NOTHING, s -> s.copy(0, 9, 5, 9, 9));
        finds("copy: SIZE ahead of NOTHING", SIZE, s -> s.copy(2, 0, 3, 0, -1));
        finds("copy: SIZE ahead of BEYOND", SIZE, s -> s.copy(0, 9, 1, 9, -1));
        finds("copy least", SIZE, s -> s.copy(0, 0, 1, 0, LEAST));
        badRow("copy from", (s, r) -> s.copy(r, 0, 1, 0, -1));
        badRow("copy to", (s, r) -> s.copy(0, 0, r, 0, -1));
        takes("copy none", 1, s -> s.copy(0, 0, 1, 0, 0));
        takes("copy none at both ends", 1, s -> s.copy(0, 4, 1, 2, 0));
        rowIs("copy none", 1, 10, 20);
        finds("copy none, from behind the end", BEYOND, s -> s.copy(0, 5, 1, 0, 0));
        finds("copy none, to behind the end", BEYOND, s -> s.copy(0, 0, 1, 3, 0));
        finds("copy one from the end", BEYOND, s -> s.copy(0, 4, 1, 0, 1));
        finds("copy one to the end", BEYOND, s -> s.copy(0, 0, 1, 2, 1));
        finds("copy one more than are there to take", BEYOND, s -> s.copy(1, 0, 0, 0, 3));
        finds("copy one more than there is room for", BEYOND, s -> s.copy(0, 0, 1, 0, 3));
        rowIs("copy refused: to", 1, 10, 20);
        takes("copy the last two to all of it", 1, s -> s.copy(0, 2, 1, 0, 2));
        rowIs("copy the last two", 1, 3, 4);
        takes("copy all to the last two", 1, s -> s.copy(1, 0, 0, 2, 2));
        rowIs("copy all to the last two", 0, 1, 2, 3, 4);
        takes("copy one", 1, s -> s.copy(0, 0, 1, 1, 1));
        rowIs("copy one leaves the others", 1, 3, 1);
        rowIs("copy leaves where it is from", 0, 1, 2, 3, 4);
        takes("a ROW of none", 0, s -> s.row(4, 0));
        takes("copy none of none", 1, s -> s.copy(4, 0, 4, 0, 0));
        finds("copy one of none", BEYOND, s -> s.copy(4, 0, 0, 0, 1));
        finds("copy one to none", BEYOND, s -> s.copy(0, 0, 4, 0, 1));
    }

    private static void copyWraps() {
        begin(5);
        lay(0, 1, 2, 3, 4);
        lay(1, 5, 6, 7, 8);
        for (int place : new int[] {LEAST, LEAST + 4, -1, GREATEST - 1, GREATEST}) {
            finds("copy from " + place, BEYOND, s -> s.copy(0, place, 1, 0, 1));
            finds("copy to " + place, BEYOND, s -> s.copy(0, 0, 1, place, 1));
            finds("copy none from " + place, BEYOND, s -> s.copy(0, place, 1, 0, 0));
            finds("copy none to " + place, BEYOND, s -> s.copy(0, 0, 1, place, 0));
            finds("copy within from " + place, BEYOND, s -> s.copy(0, place, 0, 0, 2));
        }
        finds("copy so many that the sum wraps", BEYOND, s -> s.copy(0, 1, 1, 1, GREATEST));
        finds("copy so many that both wrap", BEYOND, s -> s.copy(0, GREATEST, 1, GREATEST, GREATEST));
        rowIs("copy refused: from", 0, 1, 2, 3, 4);
        rowIs("copy refused: to", 1, 5, 6, 7, 8);
        takes("copy onto itself", 1, s -> s.copy(0, 0, 0, 0, 4));
        rowIs("copy onto itself", 0, 1, 2, 3, 4);
        takes("copy within, ahead", 1, s -> s.copy(0, 0, 0, 1, 3));
        rowIs("copy within, as if taken ahead", 0, 1, 1, 2, 3);
        takes("copy within, back", 1, s -> s.copy(1, 1, 1, 0, 3));
        rowIs("copy within, back, as if taken ahead", 1, 6, 7, 8, 8);
        lay(2, many(24, 9));
        lay(3, many(24, 2));
        takes("copy all of 24", 1, s -> s.copy(2, 0, 3, 0, 24));
        rowIs("copy all of 24", 3, many(24, 9));
        finds("copy 25 of 24", BEYOND, s -> s.copy(2, 0, 3, 0, 25));
        lay(5, LEAST, GREATEST);
        takes("copy any ints", 1, s -> s.copy(5, 0, 3, 22, 2));
        asks("copy any ints", LEAST, s -> s.lay(3, 22, 0));
        asks("copy any ints", GREATEST, s -> s.lay(3, 23, 0));
    }

    private static void meanEdges() {
        begin(6);
        badRow("mean", (s, r) -> s.mean(r));
        missingRows("mean", (s, r) -> s.mean(r));
        takes("row of none", 0, s -> s.row(0, 0));
        finds("mean of none", NOUGHT, s -> s.mean(0));
        lay(5, -9);
        asks("mean of one", -9, s -> s.mean(5));
        lay(5, 1, 2);
        asks("mean, cut", 1, s -> s.mean(5));
        lay(5, -1, -2);
        asks("mean below 0, cut", -1, s -> s.mean(5));
        lay(5, 0, 0, 2);
        asks("mean cut to 0", 0, s -> s.mean(5));
        lay(5, 0, 0, -2);
        asks("mean below 0 cut to 0", 0, s -> s.mean(5));
        lay(5, many(24, GREATEST));
        asks("mean of the greatest does not wrap", GREATEST, s -> s.mean(5));
        lay(5, many(24, LEAST));
        asks("mean of the least does not wrap", LEAST, s -> s.mean(5));
        lay(5, GREATEST, LEAST);
        asks("mean of the least and the greatest", 0, s -> s.mean(5));
        lay(5, GREATEST, 1);
        asks("mean of a sum above all ints", 1 << 30, s -> s.mean(5));
    }

    private static void tableEdges() {
        begin(7);
        badTable("table", (s, t) -> s.table(t, 1));
        for (int t = 0; t < 10; t++) {
            int table = t;
            takes("table(" + t + ", 1)", 2, s -> s.table(table, 1));
            due("count(1)", t + 1, x.count(1));
        }
        for (int n = 2; n <= 12; n++) {
            int size = n;
            takes("table(0, " + n + ")", 0, s -> s.table(0, size));
            asks("all are 1", n * n, s -> s.told(0, 2));
            asks("n", n, s -> s.told(0, 1));
        }
        layTable(3, 0, "+0 -+");
        for (int n : new int[] {LEAST, -1, 0, 13, 14, GREATEST}) {
            bad("table(3, " + n + ")", s -> s.table(3, n));
        }
        tableIs("a TABLE stays when table() is refused", 3, 0, "+0 -+");
        takes("table anew, smaller", 2, s -> s.table(3, 1));
        tableIs("table anew, smaller", 3, 2, "+");
        takes("table anew, as before", 0, s -> s.table(3, 2));
        tableIs("table anew keeps nothing", 3, 0, "++ ++");
        takes("drop", 1, s -> s.drop(4));
        bad("table(4, 13), missing", s -> s.table(4, 13));
        bad("table(4, 0), missing", s -> s.table(4, 0));
        tableIsMissing("table() refused", 4);
    }

    private static void putEdges() {
        begin(8);
        takes("row", 2, s -> s.row(0, 2));
        missingTables("put", (s, t) -> s.put(t, 0, 0));
        takes("tear", 1, s -> s.tear(0));
        takes("table", 0, s -> s.table(0, 2));
        missingRows("put", (s, r) -> s.put(0, 0, r));
        finds("put: NOTHING ahead of BEYOND", NOTHING, s -> s.put(0, 2, 0));
        badTable("put", (s, t) -> s.put(t, -1, 0));
        badRow("put", (s, r) -> s.put(0, -1, r));
        badRow("put on a missing TABLE", (s, r) -> s.put(5, 0, r));
        lay(5, -1, 0);
        beyond("put", 2, (s, i) -> s.put(0, i, 5));
        lay(1, 2, 1, 1);
        beyond("put: BEYOND ahead of SIZE", 2, (s, i) -> s.put(0, i, 1));
        finds("put: SIZE ahead of UNLIKE", SIZE, s -> s.put(0, 0, 1));
        lay(1, 1, 1, 1);
        finds("put one too many", SIZE, s -> s.put(0, 0, 1));
        lay(1, 1);
        finds("put one too few", SIZE, s -> s.put(0, 0, 1));
        takes("row of none", 0, s -> s.row(1, 0));
        finds("put none", SIZE, s -> s.put(0, 0, 1));
        for (int v : new int[] {LEAST, -2, 2, GREATEST}) {
            lay(1, v, 1);
            finds("put " + v, UNLIKE, s -> s.put(0, 0, 1));
            finds("put: BEYOND ahead of UNLIKE, " + v, BEYOND, s -> s.put(0, 2, 1));
            lay(1, 1, v);
            finds("put " + v + " at the last place", UNLIKE, s -> s.put(0, 1, 1));
        }
        tableIs("put refused", 0, 0, "++ ++");
        takes("put at row 0", 0, s -> s.put(0, 0, 5));
        tableIs("put at row 0", 0, 0, "-0 ++");
        takes("put at the last row", 0, s -> s.put(0, 1, 5));
        tableIs("put at the last row", 0, 0, "-0 -0");
        takes("lay", 1, s -> s.lay(5, 0, 1));
        tableIs("the TABLE has its own NUMBERS", 0, 0, "-0 -0");
        rowIs("the ROW stays", 5, 1, 0);
        putOfWhatWasLonger();
        takes("table of 12", 0, s -> s.table(9, 12));
        lay(2, many(12, -1));
        takes("put 12", 0, s -> s.put(9, 11, 2));
        asks("put 12", 12, s -> s.told(9, 3));
        takes("put 12 is row 11", 12, s -> s.common(9, 1 << 11 | 1));
        lay(2, many(13, 1));
        finds("put 13", SIZE, s -> s.put(9, 11, 2));
    }

    /** Places that a ROW has no more do not count, whatever was there. */
    private static void putOfWhatWasLonger() {
        for (int v : new int[] {-1, 0, 1, 7}) {
            layTable(4, 1, "++ +-");
            lay(4, v, v, v);
            lay(4, 1, -1);
            takes("put of a ROW that was longer", 1, s -> s.put(4, 1, 4));
            tableIs("put of a ROW that was longer", 4, 1, "++ +-");
        }
    }

    private static void setEdges() {
        begin(9);
        missingTables("set", (s, t) -> s.set(t, 0, 0, 1, false));
        finds("set: NOTHING ahead of BEYOND", NOTHING, s -> s.set(0, -1, 99, 1, true));
        badTable("set", (s, t) -> s.set(t, -1, 0, 1, false));
        for (int v : new int[] {LEAST, -2, 2, GREATEST}) {
            bad("set " + v + " on a missing TABLE", s -> s.set(0, 0, 0, v, false));
        }
        takes("table", 0, s -> s.table(0, 3));
        for (int v : new int[] {LEAST, -2, 2, GREATEST}) {
            bad("set " + v, s -> s.set(0, 0, 0, v, false));
            bad("set " + v + " beyond", s -> s.set(0, 3, 0, v, true));
        }
        for (boolean both : new boolean[] {false, true}) {
            beyond("set i", 3, (s, i) -> s.set(0, i, 0, -1, both));
            beyond("set j", 3, (s, j) -> s.set(0, 2, j, -1, both));
        }
        tableIs("set refused", 0, 0, "+++ +++ +++");
        takes("set -1", 0, s -> s.set(0, 0, 2, -1, false));
        tableIs("set -1 at one place", 0, 0, "++- +++ +++");
        takes("set 0", 0, s -> s.set(0, 2, 2, 0, false));
        tableIs("set 0 at the last place", 0, 0, "++- +++ ++0");
        takes("set both", 0, s -> s.set(0, 1, 2, 0, true));
        tableIs("set both", 0, 0, "++- ++0 +00");
        takes("set both, the other way", 0, s -> s.set(0, 2, 0, 0, true));
        tableIs("set both, the other way", 0, 0, "++0 ++0 000");
        takes("set both at (i, i)", 0, s -> s.set(0, 0, 0, -1, true));
        tableIs("set both at (i, i)", 0, 0, "-+0 ++0 000");
        takes("set 1", 0, s -> s.set(0, 0, 0, 1, false));
        tableIs("set 1", 0, 0, "++0 ++0 000");
        takes("table", 2, s -> s.table(9, 1));
        takes("set: its KIND is told anew", 4, s -> s.set(9, 0, 0, 0, true));
        takes("set: its KIND is told anew", 2, s -> s.set(9, 0, 0, -1, true));
    }

    private static void dropEdges() {
        begin(10);
        badTable("drop", (s, t) -> s.drop(t));
        missingTables("drop", (s, t) -> s.drop(t));
        for (int t = 0; t < 10; t++) {
            int table = t;
            takes("table", t == 0 ? 2 : 0, s -> s.table(table, table + 1));
        }
        for (int t = 0; t < 10; t++) {
            int table = t;
            takes("drop(" + t + ")", 1, s -> s.drop(table));
            due("one TABLE less", 9 - t, x.count(1));
            tableIsMissing("dropped", t);
        }
        finds("set on a dropped TABLE", NOTHING, s -> s.set(3, 0, 0, 1, false));
    }

    private static void atEdges() {
        begin(11);
        missingTables("at", (s, t) -> s.at(t, 0, 0));
        finds("at: NOTHING ahead of BEYOND", NOTHING, s -> s.at(0, -1, 99));
        badTable("at", (s, t) -> s.at(t, -1, 0));
        layTable(0, 0, "-0 +-");
        asks("at(0, 0, 0)", -1, s -> s.at(0, 0, 0));
        asks("at(0, 0, 1)", 0, s -> s.at(0, 0, 1));
        asks("at(0, 1, 0)", 1, s -> s.at(0, 1, 0));
        asks("at(0, 1, 1)", -1, s -> s.at(0, 1, 1));
        beyond("at i", 2, (s, i) -> s.at(0, i, 1));
        beyond("at j", 2, (s, j) -> s.at(0, 1, j));
        takes("table", 0, s -> s.table(9, 12));
        takes("set", 0, s -> s.set(9, 11, 11, -1, false));
        asks("at the last of all", -1, s -> s.at(9, 11, 11));
        beyond("at i of 12", 12, (s, i) -> s.at(9, i, 11));
        beyond("at j of 12", 12, (s, j) -> s.at(9, 11, j));
    }

    private static void toldEdges() {
        begin(12);
        for (int what = 0; what <= 4; what++) {
            int asked = what;
            missingTables("told " + what, (s, t) -> s.told(t, asked));
            badTable("told " + what, (s, t) -> s.told(t, asked));
        }
        for (int what : new int[] {LEAST, -1, 5, GREATEST}) {
            bad("told " + what + " of a missing TABLE", s -> s.told(0, what));
        }
        layTable(0, 0, "+-- +0- +++");
        for (int what : new int[] {LEAST, -1, 5, GREATEST}) {
            bad("told " + what, s -> s.told(0, what));
        }
        asks("told 0", 0, s -> s.told(0, 0));
        asks("told 1", 3, s -> s.told(0, 1));
        asks("told 2", 5, s -> s.told(0, 2));
        asks("told 3", 3, s -> s.told(0, 3));
        asks("told 4", 0, s -> s.told(0, 4));
        layTable(0, 2, "+");
        asks("one 1 is NORMAL", 1, s -> s.told(0, 4));
        layTable(0, 2, "-");
        asks("one -1 is not NORMAL", 0, s -> s.told(0, 4));
        layTable(0, 4, "0");
        asks("one 0 is not NORMAL", 0, s -> s.told(0, 4));
        asks("one 0: no 1", 0, s -> s.told(0, 2));
        asks("one 0: no -1", 0, s -> s.told(0, 3));
        layTable(9, 0, "+++ +-- +-+");
        asks("NORMAL", 1, s -> s.told(9, 4));
        for (int place = 0; place < 3; place++) {
            int j = place;
            takes("set", 0, s -> s.set(9, 0, j, -1, false));
            asks("-1 at (0, " + j + "): not NORMAL", 0, s -> s.told(9, 4));
            takes("set", 0, s -> s.set(9, 0, j, 1, false));
            takes("set", 0, s -> s.set(9, j, 0, -1, false));
            asks("-1 at (" + j + ", 0): not NORMAL", 0, s -> s.told(9, 4));
            takes("set", 0, s -> s.set(9, j, 0, 1, false));
        }
        takes("set", 0, s -> s.set(9, 2, 2, 0, false));
        asks("a 0: no TABLE of signs, not NORMAL", 0, s -> s.told(9, 4));
        takes("table of 12", 0, s -> s.table(9, 12));
        asks("144 are 1", 144, s -> s.told(9, 2));
        asks("none is -1", 0, s -> s.told(9, 3));
    }

    private static void kindEdges() {
        begin(12);
        layTable(0, 2, "+");
        layTable(0, 2, "-");
        layTable(0, 4, "0");
        layTable(0, 0, "++ ++");
        layTable(0, 1, "++ +-");
        layTable(0, 1, "++ -+");
        layTable(0, 1, "+- ++");
        layTable(0, 1, "-+ ++");
        layTable(0, 0, "+- -+");
        layTable(0, 0, "+0 0+");
        layTable(0, 0, "+++ +-+ ++-");
        layTable(0, 2, "-+++ +-++ ++-+ +++-");
        layTable(0, 2, "+-++ ++-+ +++- -+++");
        layTable(0, 2, "+--- -+-- --+- ---+");
        layTable(0, 1, "+++- ++-+ +-++ -+++");
        layTable(0, 1, "-+++ +-++ +++- ++-+");
        layTable(0, 0, "-+++ +-++ ++-+ -+++");
        layTable(0, 1, "++++ ++-- +-+- +--+");
        layTable(0, 0, "++++ ++-- +-+- +-+-");
        layTable(0, 0, "++++ ++-- +-+- +--0");
        takes("becomes a SQUARE", 1, s -> s.set(0, 3, 3, 1, false));
        takes("and no more", 0, s -> s.set(0, 3, 3, -1, false));
        takes("SQUARE of 12", 1, s -> s.bordered(1, 11));
        takes("one sign less", 0, s -> s.set(1, 11, 11, -1, false));
        takes("and back", 1, s -> s.set(1, 11, 11, 1, false));
    }

    private static void kindOfGraphs() {
        begin(12);
        layTable(0, 4, "0+ +0");
        layTable(0, 4, "0- -0");
        layTable(0, 0, "0- +0");
        layTable(0, 0, "00 00");
        layTable(0, 0, "0- -+");
        layTable(0, 0, "-- -0");
        layTable(0, 0, "0-0 -0- 0-0");
        // A path: as many in common, if joined or not; not REGULAR.
        layTable(0, 3, "0-+ -0- +-0");
        // One edge and one node: nobody has one in common with another; not REGULAR.
        layTable(0, 3, "0-+ -0+ ++0");
        // Two triangles at one node: any two have one in common; not REGULAR.
        layTable(0, 3, "0---- -0-++ --0++ -++0- -++-0");
        // A ring of 6: REGULAR, the joined ones alike, the others not.
        layTable(0, 3, "0-+++- -0-+++ +-0-++ ++-0-+ +++-0- -+++-0");
        // A prism: REGULAR, the others alike, the joined ones not.
        layTable(0, 3, "0---++ -0-+-+ --0++- -++0-- +-+-0- ++---0");
        layTable(0, 4, "0-+- -0-+ +-0- -+-0");
        layTable(0, 4, "0-++ -0++ ++0- ++-0");
        layTable(0, 4, "0-+-+- -0-+-+ +-0-+- -+-0-+ +-+-0- -+-+-0");
        layTable(0, 4, "0+--+ +0+-- -+0+- --+0+ +--+0");
        takes("told anew, one edge less", 3, s -> s.set(0, 0, 2, 1, true));
        takes("told anew, on one side alone", 0, s -> s.set(0, 0, 2, -1, false));
        takes("told anew, on both", 4, s -> s.set(0, 2, 0, -1, false));
        takes("told anew, not 0 at (4, 4)", 0, s -> s.set(0, 4, 4, 1, false));
        layGraph(1, 12);
        takes("12 nodes, one edge", 3, s -> s.set(1, 10, 11, -1, true));
        layFull(1, 12);
        takes("12 nodes, one edge less than all", 3, s -> s.set(1, 10, 11, 1, true));
    }

    private static void markEdges() {
        begin(13);
        for (int kind = 1; kind <= 4; kind++) {
            int asked = kind;
            missingTables("mark " + kind, (s, t) -> s.mark(t, asked));
            badTable("mark " + kind, (s, t) -> s.mark(t, asked));
        }
        for (int kind : new int[] {LEAST, -1, 0, 5, GREATEST}) {
            bad("mark " + kind + " of a missing TABLE", s -> s.mark(0, kind));
        }
        layTable(0, 0, "++ ++");
        for (int kind : new int[] {LEAST, -1, 0, 5, GREATEST}) {
            bad("mark " + kind, s -> s.mark(0, kind));
        }
        marksAre("++ ++", 0, null, null, null, null);
        marksAre("+", 2, 0, 1, null, null);
        marksAre("-", 2, 0, -1, null, null);
        marksAre("0", 4, null, null, 0, 0);
        marksAre("++ +-", 1, 1, null, null, null);
        marksAre("-+++ +-++ ++-+ +++-", 2, 2, 2, null, null);
        marksAre("+--- -+-- --+- ---+", 2, 2, -2, null, null);
        marksAre("0+ +0", 4, null, null, 0, 0);
        marksAre("0- -0", 4, null, null, 1, 1);
        marksAre("0-+ -0- +-0", 3, null, null, 2, null);
        marksAre("0-- -0- --0", 4, null, null, 3, 2);
        takes("bordered", 1, s -> s.bordered(9, 11));
        takes("mark of a SQUARE of 12", 6, s -> s.mark(9, 1));
        layFull(9, 12);
        takes("edges of 12, all joined", 66, s -> s.mark(9, 3));
        takes("neighbours of 12, all joined", 11, s -> s.mark(9, 4));
    }

    /** What mark() answers for KINDS 1 to 4; null where it must be UNLIKE. */
    private static void marksAre(String signs, int kind, Integer... marks) {
        layTable(0, kind, signs);
        for (int k = 1; k <= 4; k++) {
            int asked = k;
            if (marks[k - 1] == null) {
                finds("mark " + k + " of " + signs, UNLIKE, s -> s.mark(0, asked));
            } else {
                takes("mark " + k + " of " + signs, marks[k - 1], s -> s.mark(0, asked));
            }
        }
    }
}
