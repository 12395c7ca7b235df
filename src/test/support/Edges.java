import java.util.ArrayList;
import java.util.List;

/**
 * What the tests of the boundaries share. The calls that were taken are kept, and each call is tried
 * on a new object on which they have been called again, beside another one without it: so one object
 * is never used for more than the 512 calls that the document allows, and what is refused must leave
 * all that can be seen as it is beside, but for finding() and findings().
 */
class Edges {
    static final int NOTHING = 1, BEYOND = 2, UNLIKE = 3, NOUGHT = 4, SIZE = 5;
    static final int BAD = SignSquares.BAD, STATE = SignSquares.STATE, NONE = SignSquares.NONE;
    static final int LEAST = Integer.MIN_VALUE, GREATEST = Integer.MAX_VALUE;
    private static final int[] NO_ROW = {LEAST, -2, -1, 6, 7, GREATEST};
    private static final int[] NO_TABLE = {LEAST, -2, -1, 10, 11, GREATEST};
    private static final int CALLS_MOST = 512, CALLS_TO_LOOK = 60;

    /** The object of the latest call that was taken. */
    static SignSquares x = new SignSquares();
    private static final List<Call> taken = new ArrayList<>();
    private static int wrong = 0;
    private static int promise = 0;

    /** A call on some object. */
    interface Call {
        long on(SignSquares s);
    }

    /** A call with one of its numbers left open. */
    interface With {
        long on(SignSquares s, int number);
    }

    static void end() {
        System.out.println(wrong == 0 ? "all edges hold" : wrong + " answers are wrong");
        if (wrong != 0) {
            System.exit(1);
        }
    }

    static void due(String what, long want, long got) {
        if (want != got) {
            wrong++;
            System.out.println("promise " + promise + ": " + what + " answered " + got + ", due is " + want);
        }
    }

    static void promiseIs(int number) {
        promise = number;
    }

    // ---- the objects

    static void beginNew(int number) {
        promise = number;
        taken.clear();
        x = new SignSquares();
    }

    /**
     * No ROWS, no TABLES, but there have been, as great as can be, and all that is told is neither as
     * at first nor what a call is apt to tell: what an object keeps for itself must not be seen.
     */
    static void begin(int number) {
        beginNew(number);
        taken.add(s -> s.row(5, 24));
        taken.add(s -> s.lay(5, 0, 7777));
        for (int many = 1; many < 24; many += Math.min(many, 24 - many)) {
            int laid = many;
            taken.add(s -> s.copy(5, 0, 5, laid, Math.min(laid, 24 - laid)));
        }
        for (int r = 0; r < 5; r++) {
            int row = r;
            taken.add(s -> s.row(row, 24));
            taken.add(s -> s.copy(5, 0, row, 0, 24));
            taken.add(s -> s.tear(row));
        }
        for (int t = 0; t < 10; t++) {
            int table = t;
            taken.add(s -> s.bordered(table, 11));
        }
        taken.add(s -> s.mayBeLike(0, 1));
        taken.add(s -> s.profile(0, 4, 4));
        taken.add(s -> s.own(0, 0));
        taken.add(s -> s.pairs(8));
        for (int t = 0; t < 10; t++) {
            int table = t;
            taken.add(s -> s.drop(table));
        }
        toldBeforehand();
    }

    private static void toldBeforehand() {
        taken.add(s -> s.table(9, 3));
        taken.add(s -> s.set(9, 0, 0, -1, false));
        taken.add(s -> s.weight(9));
        taken.add(s -> s.bordered(9, 7));
        taken.add(s -> s.worth(9));
        taken.add(s -> s.drop(9));
        taken.add(s -> s.lay(5, 0, 7777));
        taken.add(s -> s.row(5, 0));
        taken.add(s -> s.mean(5));
        taken.add(s -> s.tear(5));
        x = made();
        due("beforehand: asked()", 7777, x.asked());
        due("beforehand: worthTold()", 4096, x.worthTold());
        due("beforehand: upper()", 7, x.upper());
        due("beforehand: lower()", 3, x.lower());
        due("beforehand: finding()", NOUGHT, x.finding());
        due("beforehand: findings(4)", 1, x.findings(NOUGHT));
    }

    private static SignSquares made() {
        if (taken.size() > CALLS_MOST - CALLS_TO_LOOK) {
            throw new IllegalStateException("promise " + promise + ": this test makes too many calls");
        }
        SignSquares s = new SignSquares();
        for (Call call : taken) {
            call.on(s);
        }
        return s;
    }

    private static void likeBefore(String what, SignSquares now, SignSquares before) {
        due(what + ": digest() as before", before.digest(), now.digest());
        due(what + ": asked() as before", before.asked(), now.asked());
        due(what + ": worthTold() as before", before.worthTold(), now.worthTold());
        due(what + ": upper() as before", before.upper(), now.upper());
        due(what + ": lower() as before", before.lower(), now.lower());
        for (int which = 0; which < 4; which++) {
            due(what + ": count(" + which + ") as before", before.count(which), now.count(which));
        }
        for (int t = 0; t < 10; t++) {
            due(what + ": TABLE " + t + " there as before", before.told(t, 0), now.told(t, 0));
            due(what + ": KIND of TABLE " + t + " as before", before.asked(), now.asked());
        }
    }

    private static void findingsAre(String what, SignSquares now, SignSquares before, int finding) {
        due(what + ": finding()", finding == 0 ? before.finding() : finding, now.finding());
        for (int f = 1; f <= 5; f++) {
            int want = before.findings(f) + (f == finding ? 1 : 0);
            due(what + ": findings(" + f + ")", want, now.findings(f));
        }
    }

    // ---- what is taken

    /** Taken, with the answer that is due; this call belongs to the object from now on. */
    static void takes(String what, long want, Call call) {
        x = made();
        due(what, want, call.on(x));
        findingsAre(what, x, made(), 0);
        taken.add(call);
    }

    /** Taken, and nothing that can be seen has changed, so it answers the same again. */
    static void onlyAnswers(String what, long want, Call call) {
        SignSquares now = made();
        SignSquares before = made();
        due(what, want, call.on(now));
        due(what + ", again", want, call.on(now));
        findingsAre(what, now, before, 0);
        likeBefore(what, now, before);
    }

    /** A call that answers 1 and tells a number by asked(). */
    static void asks(String what, long want, Call call) {
        takes(what, 1, call);
        due(what + ", asked()", want, x.asked());
    }

    /** The same, but the object stays as it was without it. */
    static void shows(String what, long want, Call call) {
        SignSquares now = made();
        due(what, 1, call.on(now));
        due(what + ", asked()", want, now.asked());
    }

    /** A call that answers a number and tells another one by asked(). */
    static void answersAndAsks(String what, long want, long asked, Call call) {
        takes(what, want, call);
        due(what + ", asked()", asked, x.asked());
    }

    static void worths(String what, long want, Call call) {
        takes(what, 1, call);
        due(what + ", worthTold()", want, x.worthTold());
    }

    static void fractions(String what, long upper, long lower, Call call) {
        takes(what, 1, call);
        due(what + ", upper()", upper, x.upper());
        due(what + ", lower()", lower, x.lower());
    }

    // ---- what is refused

    static void finds(String what, int finding, Call call) {
        refused(what, SignSquares.FINDING, finding, call);
    }

    /** Refused, but not by a FINDING: not even finding() and findings() change. */
    static void refuses(String what, int answer, Call call) {
        refused(what, answer, 0, call);
    }

    private static void refused(String what, int answer, int finding, Call call) {
        SignSquares now = made();
        SignSquares before = made();
        due(what, answer, call.on(now));
        findingsAre(what, now, before, finding);
        likeBefore(what, now, before);
    }

    static void bad(String what, Call call) {
        refuses(what, BAD, call);
    }

    static void badRow(String what, With call) {
        for (int r : NO_ROW) {
            bad(what + ", ROW " + r, s -> call.on(s, r));
        }
    }

    static void badTable(String what, With call) {
        for (int t : NO_TABLE) {
            bad(what + ", TABLE " + t, s -> call.on(s, t));
        }
    }

    /** Places of 0 .. n - 1: those next to them, and those farthest off. */
    static void beyond(String what, int n, With call) {
        for (int place : new int[] {LEAST, -2, -1, n, n + 1, GREATEST}) {
            finds(what + ", place " + place, BEYOND, s -> call.on(s, place));
        }
    }

    static void missingRows(String what, With call) {
        for (int r = 0; r < 6; r++) {
            int row = r;
            finds(what + ", missing ROW " + r, NOTHING, s -> call.on(s, row));
        }
    }

    static void missingTables(String what, With call) {
        for (int t = 0; t < 10; t++) {
            int table = t;
            finds(what + ", missing TABLE " + t, NOTHING, s -> call.on(s, table));
        }
    }

    // ---- rows, tables

    static void lay(int r, int... values) {
        takes("row", values.length, s -> s.row(r, values.length));
        for (int i = 0; i < values.length; i++) {
            int place = i;
            if (values[place] != 1) {
                asks("lay", 1, s -> s.lay(r, place, values[place]));
            }
        }
    }

    static int[] many(int n, int value) {
        int[] values = new int[n];
        java.util.Arrays.fill(values, value);
        return values;
    }

    /** The places of a ROW, and that there are no more. */
    static void rowIs(String what, int r, int... values) {
        for (int i = 0; i < values.length; i++) {
            int place = i;
            shows(what + ", place " + i, values[i], s -> s.lay(r, place, 0));
        }
        finds(what + ", no more places", BEYOND, s -> s.lay(r, values.length, 0));
    }

    static void rowIsMissing(String what, int r) {
        finds(what + ", ROW " + r + " is missing", NOTHING, s -> s.tear(r));
    }

    private static int sign(char c) {
        return c == '+' ? 1 : c == '-' ? -1 : 0;
    }

    /** Row after row in signs, with blanks between; what the last call answers must be the KIND. */
    static void layTable(int t, int kind, String signs) {
        String[] lines = signs.split(" ");
        int n = lines.length;
        taken.add(s -> s.table(t, n));
        for (int i = 0; i < n; i++) {
            for (int j = 0; j < n; j++) {
                int row = i, column = j, v = sign(lines[i].charAt(j));
                if (v != 1) {
                    taken.add(s -> s.set(t, row, column, v, false));
                }
            }
        }
        int last = sign(lines[n - 1].charAt(n - 1));
        takes("the KIND of " + signs, kind, s -> s.set(t, n - 1, n - 1, last, true));
    }

    static void tableIs(String what, int t, int kind, String signs) {
        String[] lines = signs.split(" ");
        shows(what + ", its KIND", kind, s -> s.told(t, 0));
        shows(what + ", its n", lines.length, s -> s.told(t, 1));
        for (int i = 0; i < lines.length; i++) {
            for (int j = 0; j < lines.length; j++) {
                int row = i, column = j;
                shows(what + " (" + i + ", " + j + ")", sign(lines[i].charAt(j)), s -> s.at(t, row, column));
            }
        }
    }

    static void tableIsMissing(String what, int t) {
        finds(what + ", TABLE " + t + " is missing", NOTHING, s -> s.drop(t));
    }

    /** A GRAPH of n (2 and more) without edges. */
    static void layGraph(int t, int n) {
        takes("table", 0, s -> s.table(t, n));
        for (int i = 0; i < n; i++) {
            int node = i;
            takes("set", i == n - 1 ? 4 : 0, s -> s.set(t, node, node, 0, false));
        }
    }

    /** A GRAPH of n (2 and more) in which all are joined. */
    static void layFull(int t, int n) {
        takes("table", 0, s -> s.table(t, n));
        takes("turn", 0, s -> s.turn(t, (1 << n) - 1, 0));
        for (int i = 0; i < n; i++) {
            int node = i;
            takes("set", i == n - 1 ? 4 : 0, s -> s.set(t, node, node, 0, false));
        }
    }
}
