/** The boundaries that promises 37 to 44 name. */
public final class GraphEdgesTest extends Edges {
    private static final String PATH = "0-+ -0- +-0", TRIANGLE = "0-- -0- --0", NO_EDGE = "0++ +0+ ++0";

    public static void main(String[] args) {
        switchedEdges();
        oddEdges();
        alikeEdges();
        alikeOfTwelve();
        fewestEdges();
        evenEdges();
        ownEdges();
        formEdges();
        formOfTwelve();
        weightEdges();
        end();
    }

    /** Tables that are no GRAPHS, each by another fault: UNLIKE. */
    private static void onlyGraphs(String what, With call) {
        String[] tables = {"+", "-", "++ ++", "++ +-", "00 00", "0- +0", "+- -0", "0- -+", "000 00+ 0+0"};
        int[] kinds = {2, 2, 0, 1, 0, 0, 0, 0, 0};
        for (int i = 0; i < tables.length; i++) {
            layTable(8, kinds[i], tables[i]);
            finds(what + " of " + tables[i], UNLIKE, s -> call.on(s, 8));
        }
    }

    private static void switchedEdges() {
        begin(37);
        missingTables("switched", (s, t) -> s.switched(t, 0));
        missingTables("switched: NOTHING ahead of BEYOND", (s, t) -> s.switched(t, -1));
        badTable("switched", (s, t) -> s.switched(t, -1));
        onlyGraphs("switched", (s, t) -> s.switched(t, 0));
        onlyGraphs("switched: UNLIKE ahead of BEYOND", (s, t) -> s.switched(t, 4096));
        layTable(0, 4, "0");
        onlyAnswers("switched of 1", 4, s -> s.switched(0, 0));
        onlyAnswers("switched of 1, all", 4, s -> s.switched(0, 1));
        for (int set : new int[] {LEAST, -1, 2, 3, GREATEST}) {
            finds("switched of 1 by " + set, BEYOND, s -> s.switched(0, set));
        }
        layTable(0, 3, PATH);
        for (int set : new int[] {LEAST, -8, -1, 8, 9, 15, 1 << 30, GREATEST}) {
            finds("switched by " + set, BEYOND, s -> s.switched(0, set));
        }
        onlyAnswers("switched by none", 3, s -> s.switched(0, 0));
        onlyAnswers("switched by all", 3, s -> s.switched(0, 7));
        takes("switched by the last", 3, s -> s.switched(0, 4));
        tableIs("switched by the last", 0, 3, "0-- -0+ -+0");
        takes("switched by all but the first", 4, s -> s.switched(0, 6));
        tableIs("switched by all but the first: its KIND is told anew", 0, 4, NO_EDGE);
        layGraph(9, 12);
        finds("switched of 12 by the next bit", BEYOND, s -> s.switched(9, 4096));
        takes("switched of 12 by the last", 3, s -> s.switched(9, 2048));
        takes("so many edges", 11, s -> s.mark(9, 3));
        takes("switched of 12 by the half", 3, s -> s.switched(9, 63));
        onlyAnswers("switched of 12 by all", 3, s -> s.switched(9, 4095));
    }

    private static void oddEdges() {
        begin(38);
        missingTables("odd", (s, t) -> s.odd(t));
        badTable("odd", (s, t) -> s.odd(t));
        onlyGraphs("odd", (s, t) -> s.odd(t));
        String[] tables = {"0", "0- -0", "0+ +0", PATH, TRIANGLE, NO_EDGE, "0-+ -0+ ++0", "0+- +0+ -+0", "0++ +0- +-0"};
        int[] kinds = {4, 4, 4, 3, 4, 4, 3, 3, 3};
        int[] triples = {0, 0, 0, 0, 1, 0, 1, 1, 1};
        for (int i = 0; i < tables.length; i++) {
            layTable(0, kinds[i], tables[i]);
            onlyAnswers("odd of " + tables[i], triples[i], s -> s.odd(0));
        }
        layFull(9, 12);
        onlyAnswers("all triples of 12", 220, s -> s.odd(9));
        takes("switched: two halves, all joined within", 4, s -> s.switched(9, 1365));
        onlyAnswers("they stay", 220, s -> s.odd(9));
        layGraph(9, 12);
        onlyAnswers("no triple of 12", 0, s -> s.odd(9));
        takes("set", 3, s -> s.set(9, 10, 11, -1, true));
        onlyAnswers("the triples of the last edge", 10, s -> s.odd(9));
    }

    private static void alikeEdges() {
        begin(39);
        missingTables("alike, both", (s, t) -> s.alike(t, t));
        layTable(0, 2, "+");
        missingTables("alike: NOTHING ahead of UNLIKE", (s, t) -> s.alike(t == 0 ? 1 : t, 0));
        missingTables("alike, the other", (s, t) -> s.alike(0, t == 0 ? 1 : t));
        badTable("alike", (s, t) -> s.alike(t, 1));
        badTable("alike, the other", (s, t) -> s.alike(1, t));
        layTable(1, 4, "0- -0");
        onlyGraphs("alike", (s, t) -> s.alike(t, 1));
        onlyGraphs("alike, the other", (s, t) -> s.alike(1, t));
        layTable(2, 4, "0");
        answersAndAsks("alike of 1", 1, 0, s -> s.alike(2, 2));
        finds("alike of 2 and 1", UNLIKE, s -> s.alike(1, 2));
        finds("alike of 1 and 2", UNLIKE, s -> s.alike(2, 1));
        layTable(3, 4, "0+ +0");
        answersAndAsks("alike of 2: without node 0", 1, 2, s -> s.alike(1, 3));
        layTable(4, 3, PATH);
        layTable(5, 4, TRIANGLE);
        layTable(6, 4, NO_EDGE);
        onlyAnswers("alike: not; nothing is told", 0, s -> s.alike(4, 5));
        onlyAnswers("alike: not; nothing is told", 0, s -> s.alike(5, 6));
        answersAndAsks("alike", 1, 2, s -> s.alike(4, 6));
        answersAndAsks("alike, the other way", 1, 2, s -> s.alike(6, 4));
        answersAndAsks("alike itself", 1, 0, s -> s.alike(5, 5));
        onlyAnswers("alike: not; what was told stays", 0, s -> s.alike(4, 5));
        layTable(7, 3, "0-- -0+ -+0");
        answersAndAsks("alike: all but node 0", 1, 6, s -> s.alike(7, 6));
    }

    private static void alikeOfTwelve() {
        begin(39);
        layGraph(0, 12);
        layGraph(9, 12);
        takes("switched", 3, s -> s.switched(9, 1));
        answersAndAsks("switched by node 0: told by the others", 1, 4094, s -> s.alike(0, 9));
        takes("switched", 3, s -> s.switched(9, 2049));
        answersAndAsks("by the last node", 1, 2048, s -> s.alike(9, 0));
        takes("set", 3, s -> s.set(9, 10, 9, -1, true));
        onlyAnswers("one edge more: not", 0, s -> s.alike(9, 0));
    }

    private static void fewestEdges() {
        begin(40);
        missingTables("fewest", (s, t) -> s.fewest(t));
        badTable("fewest", (s, t) -> s.fewest(t));
        onlyGraphs("fewest", (s, t) -> s.fewest(t));
        String[] tables = {"0", "0+ +0", "0- -0", NO_EDGE, PATH, TRIANGLE, "0-- -0+ -+0", "0-+ -0+ ++0",
            "0--- -0-- --0- ---0"};
        int[] kinds = {4, 4, 4, 4, 3, 4, 3, 3, 4};
        int[] edges = {0, 0, 0, 0, 0, 1, 0, 1, 2};
        int[] sets = {0, 0, 2, 0, 2, 2, 6, 0, 6};
        for (int i = 0; i < tables.length; i++) {
            layTable(0, kinds[i], tables[i]);
            answersAndAsks("fewest of " + tables[i], edges[i], sets[i], s -> s.fewest(0));
        }
        layGraph(9, 12);
        answersAndAsks("fewest of 12: none", 0, 0, s -> s.fewest(9));
        takes("switched", 3, s -> s.switched(9, 1));
        answersAndAsks("fewest of 12: all but node 0", 0, 4094, s -> s.fewest(9));
        layFull(9, 12);
        answersAndAsks("fewest of 12, all joined", 30, 126, s -> s.fewest(9));
        takes("the GRAPH stays", 66, s -> s.mark(9, 3));
    }

    private static void evenEdges() {
        begin(41);
        for (int what = 0; what <= 3; what++) {
            int asked = what;
            missingTables("even " + what, (s, t) -> s.even(t, asked));
            badTable("even " + what, (s, t) -> s.even(t, asked));
        }
        for (int what : new int[] {LEAST, -1, 4, GREATEST}) {
            bad("even " + what + " of a missing TABLE", s -> s.even(0, what));
        }
        layTable(0, 3, PATH);
        for (int what = 0; what <= 3; what++) {
            int asked = what;
            finds("even " + what + " of a GRAPH that is not", UNLIKE, s -> s.even(0, asked));
        }
        onlyGraphs("even", (s, t) -> s.even(t, 0));
        for (int what : new int[] {LEAST, -1, 4, GREATEST}) {
            bad("even " + what + ": BAD ahead of UNLIKE", s -> s.even(0, what));
        }
        evenIs("0", 1, 0, NONE, NONE);
        evenIs("0+ +0", 2, 0, NONE, 0);
        evenIs("0- -0", 2, 1, 0, NONE);
        evenIs(TRIANGLE, 3, 2, 1, NONE);
        evenIs(NO_EDGE, 3, 0, NONE, 0);
        evenIs("0-++ -0++ ++0- ++-0", 4, 1, 0, 0);
        evenIs("0-+- -0-+ +-0- -+-0", 4, 2, 0, 2);
        evenIs("0+--+ +0+-- -+0+- --+0+ +--+0", 5, 2, 0, 1);
        for (int what : new int[] {LEAST, -1, 4, GREATEST}) {
            bad("even " + what, s -> s.even(0, what));
        }
        layFull(9, 12);
        onlyAnswers("even of 12, neighbours", 11, s -> s.even(9, 1));
        onlyAnswers("even of 12, in common", 10, s -> s.even(9, 2));
        onlyAnswers("even of 12, all are joined", NONE, s -> s.even(9, 3));
    }

    private static void evenIs(String signs, int... told) {
        layTable(0, 4, signs);
        for (int what = 0; what < 4; what++) {
            int asked = what;
            onlyAnswers("even " + what + " of " + signs, told[what], s -> s.even(0, asked));
        }
    }

    private static void ownEdges() {
        begin(42);
        for (int number : new int[] {-12, 0, 12}) {
            missingTables("own " + number, (s, t) -> s.own(t, number));
            badTable("own " + number, (s, t) -> s.own(t, number));
        }
        for (int number : new int[] {LEAST, -14, -13, 13, 14, GREATEST}) {
            bad("own " + number + " of a missing TABLE", s -> s.own(0, number));
        }
        takes("table", 0, s -> s.table(0, 12));
        for (int number : new int[] {LEAST, -14, -13, 13, 14, GREATEST}) {
            bad("own " + number, s -> s.own(0, number));
        }
        for (int number = -12; number <= 12; number++) {
            int asked = number;
            onlyAnswers("own " + number + " of 12", number == 12 ? 1 : number == 0 ? 11 : 0,
                    s -> s.own(0, asked));
        }
        takes("turn", 0, s -> s.turn(0, 4095, 0));
        onlyAnswers("own -12 of 12, all -1", 1, s -> s.own(0, -12));
        onlyAnswers("own 12 of 12, all -1", 0, s -> s.own(0, 12));
        layTable(1, 2, "-");
        onlyAnswers("own -1 of 1", 1, s -> s.own(1, -1));
        onlyAnswers("own 1 of 1", 0, s -> s.own(1, 1));
        layTable(1, 4, "0");
        onlyAnswers("own 0 of 0", 1, s -> s.own(1, 0));
        layTable(1, 0, "0+ 00");
        onlyAnswers("as often as it is a root", 2, s -> s.own(1, 0));
        layTable(1, 0, "++0 0++ 00+");
        onlyAnswers("as often as it is a root", 3, s -> s.own(1, 1));
        layTable(1, 1, "++ +-");
        for (int number = -12; number <= 12; number++) {
            int asked = number;
            onlyAnswers("no whole number is its own", 0, s -> s.own(1, asked));
        }
        layFull(9, 12);
        onlyAnswers("own 1 of 12, all joined", 11, s -> s.own(9, 1));
        onlyAnswers("own -11 of 12, all joined", 1, s -> s.own(9, -11));
    }

    private static void formEdges() {
        begin(43);
        missingTables("form", (s, t) -> s.form(t, 0));
        missingTables("form: NOTHING ahead of BEYOND", (s, t) -> s.form(t, 13));
        badTable("form", (s, t) -> s.form(t, 0));
        badTable("form, k beyond", (s, t) -> s.form(t, 13));
        bad("form -1 of a missing TABLE", s -> s.form(0, -1));
        bad("form least of a missing TABLE", s -> s.form(0, LEAST));
        formIs("+", 2, 1, -1);
        formIs("-", 2, -1, -1);
        formIs("0", 4, 0, -1);
        formIs("+- ++", 1, 2, -2, 1);
        formIs("00 00", 0, 0, 0, 1);
        formIs("+++ 0-+ 00-", 0, 1, 1, -1, -1);
        formIs(TRIANGLE, 4, -2, 3, 0, -1);
        formIs("0+00 00+0 000+ +000", 0, -1, 0, 0, 0, 1);
    }

    /** All coefficients, and that there is none behind the last. */
    private static void formIs(String signs, int kind, int... due) {
        int n = due.length - 1;
        layTable(0, kind, signs);
        for (int k = 0; k <= n; k++) {
            int coefficient = k;
            worths("form " + k + " of " + signs, due[k], s -> s.form(0, coefficient));
        }
        for (int k : new int[] {n + 1, n + 2, 13, GREATEST}) {
            finds("form " + k + " of " + signs, BEYOND, s -> s.form(0, k));
        }
        bad("form -1 of " + signs, s -> s.form(0, -1));
        bad("form least of " + signs, s -> s.form(0, LEAST));
    }

    private static void formOfTwelve() {
        begin(43);
        takes("bordered", 1, s -> s.bordered(9, 11));
        worths("form 0 of 12", 2985984, s -> s.form(9, 0));
        worths("form 11 of 12", -12, s -> s.form(9, 11));
        worths("form 12 of 12", 1, s -> s.form(9, 12));
        finds("form 13 of 12", BEYOND, s -> s.form(9, 13));
        // The sum of a SQUARE and its flipped one is 2 at (i, i) alone: (x x - 2 x and 12) six times.
        long[] power = {1};
        for (int i = 0; i < 6; i++) {
            long[] next = new long[power.length + 2];
            for (int k = 0; k < power.length; k++) {
                next[k] += 12 * power[k];
                next[k + 1] -= 2 * power[k];
                next[k + 2] += power[k];
            }
            power = next;
        }
        for (int k = 0; k <= 12; k++) {
            int coefficient = k;
            worths("form " + k + " of 12", power[k], s -> s.form(9, coefficient));
        }
        takes("table", 0, s -> s.table(9, 11));
        worths("form 11 of 11", -1, s -> s.form(9, 11));
        worths("form 10 of 11", 11, s -> s.form(9, 10));
        worths("form 0 of 11", 0, s -> s.form(9, 0));
        finds("form 12 of 11", BEYOND, s -> s.form(9, 12));
    }

    private static void weightEdges() {
        begin(44);
        missingTables("weight", (s, t) -> s.weight(t));
        badTable("weight", (s, t) -> s.weight(t));
        String[] tables = {"+", "-", "0", "++ ++", "-- --", "+- -+", "+0 00", "-0 00", "+++ ++0 000",
            "--- --0 000", "+++ +++ 000", "++++ ++00 0000 0000", "---- --00 0000 0000"};
        int[] kinds = {2, 2, 4, 0, 0, 0, 0, 0, 0, 0, 0, 0, 0};
        int[] upper = {1, -1, 0, 2, -2, 0, 1, -1, 5, -5, 2, 3, -3};
        int[] lower = {1, 1, 1, 1, 1, 1, 2, 2, 3, 3, 1, 2, 2};
        for (int i = 0; i < tables.length; i++) {
            layTable(0, kinds[i], tables[i]);
            fractions("weight of " + tables[i], upper[i], lower[i], s -> s.weight(0));
        }
        takes("table", 0, s -> s.table(9, 12));
        fractions("the greatest weight", 12, 1, s -> s.weight(9));
        takes("set", 0, s -> s.set(9, 0, 0, 0, false));
        fractions("143 by 12", 143, 12, s -> s.weight(9));
        takes("turn", 0, s -> s.turn(9, 4095, 0));
        fractions("-143 by 12", -143, 12, s -> s.weight(9));
        takes("set", 0, s -> s.set(9, 0, 0, -1, false));
        fractions("the least weight", -12, 1, s -> s.weight(9));
    }
}
