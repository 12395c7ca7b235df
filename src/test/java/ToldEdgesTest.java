/** The boundaries that promises 45 to 52, and the terms, name. */
public final class ToldEdgesTest extends Edges {
    public static void main(String[] args) {
        worthToldEdges();
        askedEdges();
        askedStays();
        fractionEdges();
        countEdges();
        findingEdges();
        findingsAddUp();
        digestEdges();
        digestOfAll();
        lastCall();
        end();
    }

    private static void worthToldEdges() {
        beginNew(45);
        due("0 before", 0, x.worthTold());
        finds("worth refused first of all", NOTHING, s -> s.worth(0));
        layTable(0, 1, "-+ ++");
        due("0 before", 0, x.worthTold());
        worths("worth", -2, s -> s.worth(0));
        finds("form refused", BEYOND, s -> s.form(0, 3));
        bad("worth refused", s -> s.worth(10));
        worths("form, the latest", 1, s -> s.form(0, 2));
        worths("form 0", -2, s -> s.form(0, 0));
        layTable(1, 2, "-");
        onlyAnswers("own tells nothing", 1, s -> s.own(1, -1));
        worths("worth, the latest", -1, s -> s.worth(1));
        takes("drop", 1, s -> s.drop(1));
        due("it stays, though the TABLE is missing", -1, x.worthTold());
    }

    private static void askedEdges() {
        beginNew(46);
        due("0 before", 0, x.asked());
        lay(0, 4, 6);
        takes("row", 2, s -> s.row(1, 2));
        asks("by lay", 1, s -> s.lay(1, 0, -1));
        asks("by mean", 5, s -> s.mean(0));
        layTable(0, 0, "-- -0");
        asks("by at", -1, s -> s.at(0, 0, 0));
        asks("by told", 3, s -> s.told(0, 3));
        answersAndAsks("by excess", 3, 0, s -> s.excess(0));
        answersAndAsks("by peak", 1, 1, s -> s.peak(0));
        asks("by echo", -1, s -> s.echo(1, 1, false));
        layTable(1, 4, "0- -0");
        layTable(2, 4, "0+ +0");
        answersAndAsks("by alike", 1, 2, s -> s.alike(1, 2));
        asks("by at, again", -1, s -> s.at(0, 0, 0));
        answersAndAsks("by fewest", 0, 2, s -> s.fewest(1));
    }

    /** No other call tells by asked(), nor does alike() that answers 0. */
    private static void askedStays() {
        begin(46);
        stays("row", 3, s -> s.row(0, 3));
        stays("row", 3, s -> s.row(1, 3));
        stays("copy", 1, s -> s.copy(0, 0, 1, 1, 2));
        stays("table", 0, s -> s.table(0, 3));
        stays("put", 0, s -> s.put(0, 1, 0));
        stays("set", 0, s -> s.set(0, 2, 2, -1, true));
        stays("normal", 0, s -> s.normal(0));
        stays("worth", 1, s -> s.worth(0));
        stays("balanced", 0, s -> s.balanced(0));
        stays("common", 1, s -> s.common(0, 4));
        stays("profile", 1, s -> s.profile(0, 2, 3));
        stays("mayBeLike", 1, s -> s.mayBeLike(0, 0));
        stays("like", 1, s -> s.like(0, 0));
        stays("turn", 0, s -> s.turn(0, 1, 1));
        stays("swap", 0, s -> s.swap(0, true, 0, 1));
        stays("flip", 0, s -> s.flip(0));
        stays("own", 1, s -> s.own(0, 0));
        stays("form", 1, s -> s.form(0, 3));
        stays("weight", 1, s -> s.weight(0));
        stays("residues", 4, s -> s.residues(1, 5));
        stays("times", 0, s -> s.times(0, 0, 2));
        stays("bordered", 1, s -> s.bordered(3, 3));
        stays("mark", 2, s -> s.mark(3, 1));
        stays("block", 2, s -> s.block(3, 0) > 0 ? 2 : 0);
        stays("row", 1, s -> s.row(2, 1));
        stays("four", 1, s -> s.four(4, 2, 2, 2, 2));
        stays("side", 2, s -> s.side(0));
        stays("cancels", 0, s -> s.cancels(0, 1, false));
        stays("pairs", 8, s -> s.pairs(2));
        stays("leastSide", 1, s -> s.leastSide(4, 3));
        stays("longer", 2, s -> s.longer(2, 2, 4, 5));
        stays("even", 5, s -> s.even(1, 0));
        stays("odd", 5, s -> s.odd(1));
        stays("residues", 4, s -> s.residues(5, 5));
        stays("switched", 3, s -> s.switched(5, 1));
        stays("set", 3, s -> s.set(5, 3, 4, -1, true));
        stays("alike that answers 0", 0, s -> s.alike(1, 5));
        stays("count", 6, s -> s.count(0));
        stays("findings", 1, s -> s.findings(4));
        stays("tear", 1, s -> s.tear(0));
        stays("drop", 1, s -> s.drop(0));
    }

    private static void stays(String what, long want, Call call) {
        takes(what, want, call);
        due(what + " tells nothing by asked()", 7777, x.asked());
    }

    private static void fractionEdges() {
        beginNew(47);
        due("upper() before", 0, x.upper());
        due("lower() before", 1, x.lower());
        finds("weight refused first of all", NOTHING, s -> s.weight(0));
        layTable(0, 0, "-0 00");
        due("upper() before weight()", 0, x.upper());
        due("lower() before weight()", 1, x.lower());
        fractions("weight", -1, 2, s -> s.weight(0));
        finds("weight refused", NOTHING, s -> s.weight(1));
        bad("weight refused", s -> s.weight(-1));
        takes("drop", 1, s -> s.drop(0));
        due("upper() stays, though the TABLE is missing", -1, x.upper());
        due("lower() stays, though the TABLE is missing", 2, x.lower());
        layTable(0, 4, "0");
        fractions("0 by 1", 0, 1, s -> s.weight(0));
    }

    private static void countEdges() {
        begin(49);
        for (int what : new int[] {LEAST, -1, 4, 5, GREATEST}) {
            bad("count(" + what + ")", s -> s.count(what));
        }
        for (int what = 0; what < 4; what++) {
            int asked = what;
            onlyAnswers("count(" + what + ") of none", 0, s -> s.count(asked));
        }
        for (int t = 0; t < 10; t++) {
            int table = t;
            takes("table", 2, s -> s.table(table, 1));
            counts("ROUNDS", 0, t + 1, t + 1, 0);
        }
        for (int t = 0; t < 10; t++) {
            int table = t;
            takes("set", 4, s -> s.set(table, 0, 0, 0, false));
            counts("EVEN ones", 0, 10, 9 - t, t + 1);
        }
        for (int r = 0; r < 6; r++) {
            int row = r;
            takes("row", 0, s -> s.row(row, 0));
            counts("ROWS", r + 1, 10, 0, 10);
        }
        takes("table that is no more", 0, s -> s.table(0, 2));
        counts("a TABLE", 6, 10, 0, 9);
        layTable(0, 1, "++ +-");
        counts("a SQUARE", 6, 10, 1, 9);
        layTable(9, 3, "0-+ -0- +-0");
        counts("a GRAPH", 6, 10, 1, 9);
        takes("drop", 1, s -> s.drop(9));
        takes("tear", 1, s -> s.tear(5));
        counts("less", 5, 9, 1, 8);
    }

    private static void counts(String what, int rows, int tables, int squares, int graphs) {
        due("ROWS, " + what, rows, x.count(0));
        due("TABLES, " + what, tables, x.count(1));
        due("SQUARES, " + what, squares, x.count(2));
        due("GRAPHS, " + what, graphs, x.count(3));
    }

    private static void findingEdges() {
        beginNew(50);
        due("0 before any", 0, x.finding());
        bad("findings(0)", s -> s.findings(0));
        bad("findings(6)", s -> s.findings(6));
        bad("findings(-1)", s -> s.findings(-1));
        bad("findings(least)", s -> s.findings(LEAST));
        bad("findings(greatest)", s -> s.findings(GREATEST));
        for (int f = 1; f <= 5; f++) {
            int asked = f;
            onlyAnswers("findings(" + f + ") before any", 0, s -> s.findings(asked));
        }
        takes("row", 2, s -> s.row(0, 2));
        refuses("STATE is no FINDING", STATE, s -> s.longer(0, 0, 1, 2));
    }

    /** Each FINDING in turn: the latest one is told, all are counted, and no answer takes one away. */
    private static void findingsAddUp() {
        promiseIs(51);
        SignSquares s = new SignSquares();
        int[] due = new int[6];
        for (int round = 1; round <= 9; round++) {
            for (int f = 1; f <= 5; f++) {
                due("FINDING " + f, SignSquares.FINDING, findingOf(s, f));
                due[f]++;
                due("finding()", f, s.finding());
                for (int other = 1; other <= 5; other++) {
                    due("findings(" + other + ")", due[other], s.findings(other));
                }
            }
            due("BAD", BAD, s.table(0, 13));
            due("finding() stays when BAD is answered", SIZE, s.finding());
        }
    }

    private static int findingOf(SignSquares s, int f) {
        switch (f) {
            case NOTHING: return s.tear(0);
            case BEYOND: s.row(0, 0); return s.lay(0, 0, 1) + s.tear(0) - 1;
            case UNLIKE: s.table(0, 2); return s.odd(0);
            case NOUGHT: s.row(0, 0); return s.mean(0) + s.tear(0) - 1;
            default: return s.row(0, -1);
        }
    }

    private static void digestEdges() {
        beginNew(52);
        onlyAnswers("digest of nothing", hash(many(16, -1)), s -> s.digest());
        takes("table", 2, s -> s.table(0, 1));
        onlyAnswers("the first TABLE", hash(2, 1, 1, many(15, -1)), s -> s.digest());
        takes("drop", 1, s -> s.drop(0));
        layTable(9, 4, "0- -0");
        onlyAnswers("the last TABLE", hash(many(9, -1), 4, 2, 0, -1, -1, 0, many(6, -1)), s -> s.digest());
        takes("drop", 1, s -> s.drop(9));
        onlyAnswers("dropped", hash(many(16, -1)), s -> s.digest());
        takes("row of none", 0, s -> s.row(0, 0));
        onlyAnswers("a ROW of none is not missing", hash(many(10, -1), 0, many(5, -1)), s -> s.digest());
        lay(5, LEAST, GREATEST);
        onlyAnswers("any ints", hash(many(10, -1), 0, many(4, -1), 2, LEAST, GREATEST), s -> s.digest());
        takes("row anew", 1, s -> s.row(5, 1));
        onlyAnswers("places that are no more", hash(many(10, -1), 0, many(4, -1), 1, 1), s -> s.digest());
        layTable(3, 3, "0-+ -0- +-0");
        onlyAnswers("row by row", hash(many(3, -1), 3, 3, 0, -1, 1, -1, 0, -1, 1, -1, 0, many(6, -1), 0,
                many(4, -1), 1, 1), s -> s.digest());
    }

    /** All that there can be: it wraps around, as long does. */
    private static void digestOfAll() {
        beginNew(52);
        Object[] values = new Object[16];
        for (int t = 0; t < 10; t++) {
            int table = t;
            takes("table", 0, s -> s.table(table, 12));
            values[t] = many(146, 1);
            ((int[]) values[t])[0] = 0;
            ((int[]) values[t])[1] = 12;
        }
        for (int r = 0; r < 6; r++) {
            int row = r;
            takes("row", 24, s -> s.row(row, 24));
            values[10 + r] = many(25, 1);
            ((int[]) values[10 + r])[0] = 24;
        }
        onlyAnswers("digest of all", hash(values), s -> s.digest());
    }

    /** By numbers and rows of numbers. */
    private static long hash(Object... values) {
        java.math.BigInteger h = java.math.BigInteger.valueOf(17);
        java.math.BigInteger by = java.math.BigInteger.valueOf(31);
        for (Object value : values) {
            int[] each = value instanceof int[] many ? many : new int[] {(Integer) value};
            for (int v : each) {
                h = h.multiply(by).add(java.math.BigInteger.valueOf(v));
            }
        }
        return h.longValue();
    }

    /** The 512th call is still answered as the document says. */
    private static void lastCall() {
        promiseIs(51);
        SignSquares s = new SignSquares();
        for (int call = 1; call <= 511; call++) {
            due("call " + call, SignSquares.FINDING, s.tear(call % 6));
        }
        due("the 512th call", 511, s.findings(NOTHING));
        SignSquares other = new SignSquares();
        for (int call = 1; call <= 510; call++) {
            due("call " + call, 12, other.row(call % 6, 12));
        }
        due("the 511th call", 2, other.leastSide(12, 0));
        due("the 512th call", 2, other.side(0));
    }
}
