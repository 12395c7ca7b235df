/** The boundaries that promises 14 to 30 name. */
public final class SquareEdgesTest extends Edges {
    private static final String ROUND_OF_4 = "-+++ +-++ ++-+ +++-";

    public static void main(String[] args) {
        timesEdges();
        timesOntoItself();
        residuesEdges();
        borderedEdges();
        fourEdges();
        fourRefused();
        turnEdges();
        swapEdges();
        flipEdges();
        normalEdges();
        worthEdges();
        balancedEdges();
        commonEdges();
        profileEdges();
        mayBeLikeEdges();
        likeEdges();
        likeIsNot();
        excessEdges();
        peakEdges();
        blockEdges();
        blockTurned();
        end();
    }

    private static void timesEdges() {
        begin(14);
        missingTables("times, both", (s, t) -> s.times(t, t, t));
        layTable(0, 0, "-0 ++");
        missingTables("times, the other", (s, t) -> t == 0 ? s.times(1, 0, 5) : s.times(0, t, 5));
        missingTables("times, the first", (s, t) -> t == 0 ? s.times(1, 0, 5) : s.times(t, 0, 5));
        badTable("times, the first", (s, t) -> s.times(t, 1, 2));
        badTable("times, the other", (s, t) -> s.times(1, t, 2));
        badTable("times, the place", (s, t) -> s.times(0, 0, t));
        badTable("times, the place, of missing ones", (s, t) -> s.times(1, 1, t));
        for (int n = 1; n <= 12; n++) {
            int size = n;
            takes("table", n == 1 ? 2 : 0, s -> s.table(1, size));
            for (int m = 1; m <= 12; m++) {
                int other = m;
                takes("table", m == 1 ? 2 : 0, s -> s.table(2, other));
                if (n * m > 12) {
                    finds("times of " + n + " and " + m, SIZE, s -> s.times(1, 2, 0));
                    finds("times of " + n + " and " + m + " to none", SIZE, s -> s.times(1, 2, 9));
                } else {
                    shows("times of " + n + " and " + m, n * m,
                            s -> s.times(1, 2, 9) < 0 ? -1 : s.told(9, 1));
                }
            }
        }
        finds("times of 12 by 2", SIZE, s -> s.times(2, 0, 0));
        tableIs("times refused", 0, 0, "-0 ++");
        tableIsMissing("times refused", 9);
    }

    private static void timesOntoItself() {
        begin(14);
        layTable(0, 0, "-0 ++");
        layTable(1, 2, "-");
        takes("times of -1", 0, s -> s.times(0, 1, 9));
        tableIs("times of -1", 9, 0, "+0 --");
        takes("times onto the first", 0, s -> s.times(0, 0, 0));
        tableIs("times onto the first", 0, 0, "+000 --00 -0-0 ++++");
        layTable(0, 0, "-0 ++");
        layTable(1, 0, "+- 0+");
        takes("times onto the other", 0, s -> s.times(0, 1, 1));
        tableIs("times onto the other", 1, 0, "-+00 0-00 +-+- 0+0+");
        tableIs("the first stays", 0, 0, "-0 ++");
        layTable(2, 1, "++ +-");
        takes("times of SQUARES is one", 1, s -> s.times(2, 2, 0));
        tableIs("times of SQUARES", 0, 1, "++++ +-+- ++-- +--+");
        layTable(3, 4, "0");
        takes("times of 0 by 0", 4, s -> s.times(3, 3, 9));
        takes("times of a SQUARE by 0", 0, s -> s.times(2, 3, 9));
        tableIs("times of a SQUARE by 0", 9, 0, "00 00");
        layTable(4, 2, ROUND_OF_4);
        layTable(5, 2, "-");
        takes("a ROUND by -1 is a ROUND", 2, s -> s.times(4, 5, 9));
        takes("table", 0, s -> s.table(6, 12));
        takes("12 by 1 is 12", 0, s -> s.times(6, 5, 9));
        takes("1 by 12 is 12", 0, s -> s.times(5, 6, 8));
        shows("12 by 1", 144, s -> s.told(9, 3));
        shows("1 by 12", 144, s -> s.told(8, 3));
    }

    private static void residuesEdges() {
        begin(15);
        int[] primes = {3, 5, 7, 11};
        for (int p : primes) {
            badTable("residues " + p, (s, t) -> s.residues(t, p));
        }
        layTable(0, 0, "-0 ++");
        for (int p = -12; p <= 24; p++) {
            int number = p;
            if (java.util.Arrays.binarySearch(primes, p) < 0) {
                bad("residues(0, " + p + ")", s -> s.residues(0, number));
                bad("residues(1, " + p + "), missing", s -> s.residues(1, number));
            }
        }
        bad("residues(0, least)", s -> s.residues(0, LEAST));
        bad("residues(0, greatest)", s -> s.residues(0, GREATEST));
        tableIs("residues refused", 0, 0, "-0 ++");
        takes("residues 3", 0, s -> s.residues(0, 3));
        tableIs("residues 3", 0, 0, "0+- -0+ +-0");
        takes("residues 5", 4, s -> s.residues(9, 5));
        tableIs("residues 5", 9, 4, "0+--+ +0+-- -+0+- --+0+ +--+0");
        takes("residues 7", 0, s -> s.residues(9, 7));
        tableIs("residues 7", 9, 0, "0++-+-- -0++-+- --0++-+ +--0++- -+--0++ +-+--0+ ++-+--0");
        takes("residues 11", 0, s -> s.residues(9, 11));
        tableIs("residues 11", 9, 0, "0+-+++---+- -0+-+++---+ +-0+-+++--- -+-0+-+++-- --+-0+-+++-"
                + " ---+-0+-+++ +---+-0+-++ ++---+-0+-+ +++---+-0+- -+++---+-0+ +-+++---+-0");
    }

    private static void borderedEdges() {
        begin(16);
        for (int p : new int[] {3, 7, 11}) {
            badTable("bordered " + p, (s, t) -> s.bordered(t, p));
        }
        layTable(0, 0, "-0 ++");
        for (int p = -12; p <= 24; p++) {
            int number = p;
            if (p != 3 && p != 7 && p != 11) {
                bad("bordered(0, " + p + ")", s -> s.bordered(0, number));
                bad("bordered(1, " + p + "), missing", s -> s.bordered(1, number));
            }
        }
        bad("bordered(0, least)", s -> s.bordered(0, LEAST));
        bad("bordered(0, greatest)", s -> s.bordered(0, GREATEST));
        tableIs("bordered refused", 0, 0, "-0 ++");
        takes("bordered 3", 1, s -> s.bordered(0, 3));
        tableIs("bordered 3", 0, 1, "++++ -++- --++ -+-+");
        takes("bordered 7", 1, s -> s.bordered(9, 7));
        tableIs("bordered 7", 9, 1,
                "++++++++ -+++-+-- --+++-+- ---+++-+ -+--+++- --+--+++ -+-+--++ -++-+--+");
        takes("bordered 11", 1, s -> s.bordered(9, 11));
        tableIs("bordered 11", 9, 1, "++++++++++++ -++-+++---+- --++-+++---+ -+-++-+++--- --+-++-+++--"
                + " ---+-++-+++- ----+-++-+++ -+---+-++-++ -++---+-++-+ -+++---+-++- --+++---+-++ -+-+++---+-+");
    }

    private static void fourEdges() {
        begin(17);
        lay(0, 1);
        lay(1, -1);
        takes("four of one ROW", 1, s -> s.four(0, 0, 0, 0, 0));
        tableIs("four of one ROW", 0, 1, "++++ -+-+ -++- --++");
        takes("four of 1: a", 1, s -> s.four(0, 1, 0, 0, 0));
        tableIs("four of 1: a", 0, 1, "-+++ ---+ -+-- --+-");
        takes("four of 1: b", 1, s -> s.four(0, 0, 1, 0, 0));
        tableIs("four of 1: b", 0, 1, "+-++ ++-+ -+++ ---+");
        takes("four of 1: c", 1, s -> s.four(0, 0, 0, 1, 0));
        tableIs("four of 1: c", 0, 1, "++-+ -+-- +++- -+++");
        takes("four of 1: d", 1, s -> s.four(9, 0, 0, 0, 1));
        tableIs("four of 1: d", 9, 1, "+++- -+++ --+- +-++");
        lay(2, 1, 1);
        lay(3, -1, 1);
        takes("four of 2", 1, s -> s.four(1, 2, 3, 2, 3));
        tableIs("four of 2", 1, 1, byHand("++", "-+", "++", "-+"));
        lay(4, -1, 1, 1);
        lay(5, 1, 1, 1);
        takes("four of 3", 1, s -> s.four(9, 5, 4, 4, 4));
        tableIs("four of 3", 9, 1, byHand("+++", "-++", "-++", "-++"));
        takes("four of 3, elsewhere", 1, s -> s.four(1, 4, 4, 5, 4));
        tableIs("four of 3, elsewhere", 1, 1, byHand("-++", "-++", "+++", "-++"));
        rowIs("the ROWS stay", 4, -1, 1, 1);
        takes("tear", 1, s -> s.tear(4));
        tableIs("the TABLE has its own NUMBERS", 9, 1, byHand("+++", "-++", "-++", "-++"));
    }

    private static String byHand(String... rounds) {
        String[] parts = {"+0+1+2+3", "-1+0-3+2", "-2+3+0-1", "-3-2+1+0"};
        int m = rounds[0].length();
        StringBuilder signs = new StringBuilder();
        for (int i = 0; i < 4 * m; i++) {
            signs.append(i == 0 ? "" : " ");
            for (int j = 0; j < 4 * m; j++) {
                String line = parts[i / m];
                boolean kept = line.charAt(j / m * 2) == '+';
                String round = rounds[line.charAt(j / m * 2 + 1) - '0'];
                boolean plus = round.charAt(Math.floorMod(j - i, m)) == '+';
                signs.append(kept == plus ? '+' : '-');
            }
        }
        return signs.toString();
    }

    /** All four ROWS take their turn at being the one that is refused. */
    private static long fourWith(SignSquares s, int at, int r, int others) {
        return s.four(0, at == 0 ? r : others, at == 1 ? r : others, at == 2 ? r : others,
                at == 3 ? r : others);
    }

    private static void fourRefused() {
        begin(17);
        missingRows("four, all", (s, r) -> s.four(0, r, r, r, r));
        lay(0, 1, 1, 1);
        lay(1, -1, 1, 1);
        layTable(0, 0, "-0 ++");
        badTable("four", (s, t) -> s.four(t, 5, 5, 5, 5));
        takes("row", 0, s -> s.row(3, 0));
        for (int at = 0; at < 4; at++) {
            int which = at;
            badRow("four, ROW " + at, (s, r) -> fourWith(s, which, r, 0));
            badRow("four, ROW " + at + ", of missing ones", (s, r) -> fourWith(s, which, r, 5));
            finds("four, ROW " + at + " missing", NOTHING, s -> fourWith(s, which, 5, 0));
            finds("four: NOTHING ahead of SIZE, ROW " + at, NOTHING, s -> fourWith(s, which, 5, 3));
            lay(2, 1, 1);
            finds("four, ROW " + at + " not as many", SIZE, s -> fourWith(s, which, 2, 0));
            lay(2, 1, 1, 1, 1);
            finds("four, ROW " + at + " more than 3", SIZE, s -> fourWith(s, which, 2, 0));
            finds("four, ROW " + at + " none", SIZE, s -> fourWith(s, which, 3, 0));
            lay(2, 5, 1);
            finds("four: SIZE ahead of UNLIKE, ROW " + at, SIZE, s -> fourWith(s, which, 2, 0));
            for (int v : new int[] {LEAST, -2, 0, 2, GREATEST}) {
                lay(2, v, 1, 1);
                finds("four, ROW " + at + ": " + v + " is no sign", UNLIKE, s -> fourWith(s, which, 2, 0));
            }
            lay(2, 1, 0, 0);
            finds("four, ROW " + at + ": backwards, but no SIGNS", UNLIKE, s -> fourWith(s, which, 2, 0));
            lay(2, 1, -1, 1);
            finds("four, ROW " + at + " not backwards", UNLIKE, s -> fourWith(s, which, 2, 1));
            lay(2, 1, 1, -1);
            finds("four, ROW " + at + " not backwards", UNLIKE, s -> fourWith(s, which, 2, 1));
        }
        refuses("four do not FIT: STATE, no FINDING", STATE, s -> s.four(0, 0, 0, 0, 0));
        refuses("four do not FIT: echoes below 0", STATE, s -> s.four(0, 1, 1, 1, 1));
        refuses("four do not FIT, to a missing place", STATE, s -> s.four(9, 0, 0, 1, 1));
        finds("four: UNLIKE ahead of STATE", UNLIKE, s -> s.four(0, 0, 0, 0, 2));
        takes("four fit", 1, s -> s.four(9, 0, 1, 1, 1));
        lay(2, 1, 1);
        refuses("four of 2 do not FIT", STATE, s -> s.four(0, 2, 2, 2, 2));
        finds("four of none", SIZE, s -> s.four(0, 3, 3, 3, 3));
        takes("row", 4, s -> s.row(2, 4));
        finds("four of 4", SIZE, s -> s.four(0, 2, 2, 2, 2));
        tableIs("four refused", 0, 0, "-0 ++");
    }

    private static void turnEdges() {
        begin(18);
        missingTables("turn", (s, t) -> s.turn(t, 0, 0));
        missingTables("turn: NOTHING ahead of bits beyond", (s, t) -> s.turn(t, -1, 1 << 20));
        badTable("turn", (s, t) -> s.turn(t, 0, 0));
        badTable("turn, bits beyond", (s, t) -> s.turn(t, -1, -1));
        for (int n = 1; n <= 12; n++) {
            int size = n, all = (1 << n) - 1;
            takes("table", n == 1 ? 2 : 0, s -> s.table(9, size));
            for (int bits : new int[] {LEAST, -1, -all, all + 1, all + 2, 2 * all + 1, 1 << 30, GREATEST}) {
                bad("turn rows " + bits + " of " + n, s -> s.turn(9, bits, 0));
                bad("turn columns " + bits + " of " + n, s -> s.turn(9, 0, bits));
                bad("turn columns " + bits + " of " + n + ", rows fine", s -> s.turn(9, all, bits));
            }
            takes("turn all rows of " + n, n == 1 ? 2 : 0, s -> s.turn(9, all, 0));
            shows("turn all rows of " + n, n * n, s -> s.told(9, 3));
            takes("turn all columns of " + n, n == 1 ? 2 : 0, s -> s.turn(9, 0, all));
            shows("turn all columns of " + n, n * n, s -> s.told(9, 2));
            takes("turn all of both of " + n, n == 1 ? 2 : 0, s -> s.turn(9, all, all));
            shows("turn all of both of " + n, n * n, s -> s.told(9, 2));
            takes("turn the last of both", n == 1 ? 2 : 0, s -> s.turn(9, 1 << (size - 1), 1 << (size - 1)));
            shows("turn the last of both", 2 * (n - 1), s -> s.told(9, 3));
        }
        layTable(0, 0, "+0- --+ 0+-");
        onlyAnswers("turn none", 0, s -> s.turn(0, 0, 0));
        takes("turn", 0, s -> s.turn(0, 0b101, 0b010));
        tableIs("turn: bit 0 is row 0, 0 stays 0", 0, 0, "-0+ -++ 0++");
        layTable(0, 4, "0- -0");
        takes("turn: no GRAPH now", 0, s -> s.turn(0, 1, 0));
        takes("turn: EVEN again", 4, s -> s.turn(0, 0, 1));
        layTable(0, 2, ROUND_OF_4);
        takes("turn: a SQUARE, no ROUND now", 1, s -> s.turn(0, 0, 8));
    }

    private static void swapEdges() {
        begin(19);
        for (boolean columns : new boolean[] {false, true}) {
            missingTables("swap", (s, t) -> s.swap(t, columns, 0, 0));
            missingTables("swap: NOTHING ahead of BEYOND", (s, t) -> s.swap(t, columns, -1, 12));
            badTable("swap", (s, t) -> s.swap(t, columns, -1, 12));
        }
        layTable(0, 0, "+0- --+ 0+-");
        for (boolean columns : new boolean[] {false, true}) {
            beyond("swap i", 3, (s, i) -> s.swap(0, columns, i, 0));
            beyond("swap j", 3, (s, j) -> s.swap(0, columns, 2, j));
            beyond("swap both", 3, (s, i) -> s.swap(0, columns, i, i));
            onlyAnswers("swap the first with itself", 0, s -> s.swap(0, columns, 0, 0));
            onlyAnswers("swap the last with itself", 0, s -> s.swap(0, columns, 2, 2));
        }
        takes("swap the first and the last row", 0, s -> s.swap(0, false, 0, 2));
        tableIs("swap the first and the last row", 0, 0, "0+- --+ +0-");
        takes("swap back, told the other way", 0, s -> s.swap(0, false, 2, 0));
        tableIs("swap back", 0, 0, "+0- --+ 0+-");
        takes("swap the first and the last column", 0, s -> s.swap(0, true, 2, 0));
        tableIs("swap the first and the last column", 0, 0, "-0+ +-- -+0");
        takes("table", 2, s -> s.table(1, 1));
        onlyAnswers("swap of 1", 2, s -> s.swap(1, true, 0, 0));
        beyond("swap of 1", 1, (s, i) -> s.swap(1, false, 0, i));
        layTable(9, 2, ROUND_OF_4);
        takes("swap: a SQUARE, no ROUND now", 1, s -> s.swap(9, false, 0, 3));
        takes("swap: a ROUND again", 2, s -> s.swap(9, true, 0, 3));
        layTable(9, 4, "0- -0");
        takes("swap: no GRAPH now", 0, s -> s.swap(9, true, 0, 1));
    }

    private static void flipEdges() {
        begin(20);
        missingTables("flip", (s, t) -> s.flip(t));
        badTable("flip", (s, t) -> s.flip(t));
        layTable(0, 2, "-");
        onlyAnswers("flip of 1", 2, s -> s.flip(0));
        layTable(0, 0, "+0- --+ 0+-");
        takes("flip", 0, s -> s.flip(0));
        tableIs("flip", 0, 0, "+-0 0-+ -+-");
        layTable(0, 3, "0-+ -0- +-0");
        onlyAnswers("flip a GRAPH", 3, s -> s.flip(0));
        layTable(0, 2, "+-++ ++-+ +++- -+++");
        takes("flip a ROUND", 2, s -> s.flip(0));
        tableIs("flip a ROUND", 0, 2, "+++- -+++ +-++ ++-+");
        takes("bordered", 1, s -> s.bordered(9, 11));
        takes("flip of 12 is a SQUARE, too", 1, s -> s.flip(9));
        shows("flip of 12", -1, s -> s.at(9, 0, 11));
        shows("flip of 12", 1, s -> s.at(9, 11, 0));
    }

    private static void normalEdges() {
        begin(21);
        missingTables("normal", (s, t) -> s.normal(t));
        badTable("normal", (s, t) -> s.normal(t));
        layTable(0, 2, "+");
        onlyAnswers("normal of 1", 0, s -> s.normal(0));
        layTable(0, 2, "-");
        takes("normal of -1", 1, s -> s.normal(0));
        tableIs("normal of -1", 0, 2, "+");
        layTable(0, 4, "0");
        finds("normal of 0", UNLIKE, s -> s.normal(0));
        layTable(0, 0, "-- --");
        takes("normal: columns first", 2, s -> s.normal(0));
        tableIs("normal: columns first", 0, 0, "++ ++");
        layTable(0, 1, "-+ ++");
        takes("normal: then rows, as they are by then", 2, s -> s.normal(0));
        tableIs("normal: then rows", 0, 1, "++ +-");
        onlyAnswers("normal again turns none", 0, s -> s.normal(0));
        for (int i = 0; i < 3; i++) {
            for (int j = 0; j < 3; j++) {
                int row = i, column = j;
                takes("table", 0, s -> s.table(1, 3));
                takes("set", 0, s -> s.set(1, row, column, 0, false));
                finds("normal with a 0 at (" + i + ", " + j + ")", UNLIKE, s -> s.normal(1));
            }
        }
        takes("table", 0, s -> s.table(9, 12));
        takes("turn", 0, s -> s.turn(9, 1, 0));
        takes("normal: all columns, all rows but one", 23, s -> s.normal(9));
        shows("normal of 12", 1, s -> s.told(9, 4));
        layTable(2, 2, ROUND_OF_4);
        takes("normal of a ROUND", 4, s -> s.normal(2));
        tableIs("normal of a ROUND", 2, 1, "++++ ++-- +-+- +--+");
    }

    private static void worthEdges() {
        begin(22);
        missingTables("worth", (s, t) -> s.worth(t));
        badTable("worth", (s, t) -> s.worth(t));
        String[] tables = {"+", "-", "0", "0+ +0", "0- +0", "++ +-", "00 00", "+-- ++- +++", "0+0 00+ +00",
            "00+ 0+0 +00", "000 +++ ---"};
        int[] kinds = {2, 2, 4, 4, 0, 1, 0, 0, 0, 0, 0};
        int[] worths = {1, -1, 0, -1, 1, -2, 0, 4, 1, -1, 0};
        for (int i = 0; i < tables.length; i++) {
            layTable(0, kinds[i], tables[i]);
            worths("worth of " + tables[i], worths[i], s -> s.worth(0));
        }
        takes("bordered", 1, s -> s.bordered(9, 11));
        worths("the greatest worth", 2985984, s -> s.worth(9));
        takes("swap", 1, s -> s.swap(9, false, 0, 11));
        worths("the least worth", -2985984, s -> s.worth(9));
        layFull(9, 12);
        worths("worth of 12, all joined", -11, s -> s.worth(9));
    }

    private static void balancedEdges() {
        begin(23);
        missingTables("balanced", (s, t) -> s.balanced(t));
        badTable("balanced", (s, t) -> s.balanced(t));
        String[] tables = {"+", "0", "++ ++", "++ +-", "00 00", "00 ++", "+0 0+", "+0 -0", "+-0 ++0 0++",
            "+-+ ++0 0++", "0-- -0- --0"};
        int[] kinds = {2, 4, 0, 1, 0, 0, 0, 0, 0, 0, 4};
        int[] pairs = {0, 0, 0, 1, 1, 1, 1, 0, 1, 2, 0};
        for (int i = 0; i < tables.length; i++) {
            layTable(0, kinds[i], tables[i]);
            onlyAnswers("balanced of " + tables[i], pairs[i], s -> s.balanced(0));
        }
        takes("bordered", 1, s -> s.bordered(9, 11));
        onlyAnswers("all pairs of 12 rows", 66, s -> s.balanced(9));
        takes("set", 0, s -> s.set(9, 11, 11, 0, false));
        onlyAnswers("all pairs without the last row", 55, s -> s.balanced(9));
    }

    private static void commonEdges() {
        begin(24);
        missingTables("common", (s, t) -> s.common(t, 1));
        missingTables("common: NOTHING ahead of all", (s, t) -> s.common(t, 0));
        badTable("common", (s, t) -> s.common(t, 0));
        for (int n = 1; n <= 12; n++) {
            int size = n, all = (1 << n) - 1;
            takes("table", n == 1 ? 2 : 0, s -> s.table(9, size));
            onlyAnswers("common of the first row of " + n, n, s -> s.common(9, 1));
            onlyAnswers("common of the last row of " + n, n, s -> s.common(9, 1 << (size - 1)));
            onlyAnswers("common of all rows of " + n, n, s -> s.common(9, all));
            for (int set : new int[] {LEAST, -1, 0, all + 1, all + 2, 1 << 30, GREATEST}) {
                finds("common of " + set + " of " + n, BEYOND, s -> s.common(9, set));
            }
        }
        layTable(0, 0, "--- --+ +--");
        onlyAnswers("common without its sign", 3, s -> s.common(0, 1));
        onlyAnswers("common without its sign", 1, s -> s.common(0, 2));
        onlyAnswers("common of two", 1, s -> s.common(0, 3));
        onlyAnswers("common of all, below 0", 1, s -> s.common(0, 7));
        layTable(1, 1, "++ +-");
        onlyAnswers("common of two rows that BALANCE", 0, s -> s.common(1, 3));
        takes("set", 0, s -> s.set(0, 2, 2, 0, false));
        for (int set : new int[] {LEAST, -1, 0, 1, 4, 7, 8, GREATEST}) {
            finds("common: UNLIKE ahead of BEYOND, " + set, UNLIKE, s -> s.common(0, set));
        }
    }

    private static void profileEdges() {
        begin(25);
        int[][] wrongOnes = {{1, 0}, {5, 0}, {0, 0}, {-1, 0}, {LEAST, 0}, {GREATEST, 0}, {2, -1}, {4, 13},
            {3, LEAST}, {3, GREATEST}};
        for (int[] one : wrongOnes) {
            bad("profile " + one[0] + " " + one[1] + ", missing", s -> s.profile(0, one[0], one[1]));
        }
        for (int k = 2; k <= 4; k++) {
            int size = k;
            missingTables("profile " + k, (s, t) -> s.profile(t, size, 12));
            badTable("profile " + k, (s, t) -> s.profile(t, size, 0));
        }
        takes("table", 0, s -> s.table(0, 12));
        for (int[] one : wrongOnes) {
            bad("profile " + one[0] + " " + one[1], s -> s.profile(0, one[0], one[1]));
        }
        int[] sets = {66, 220, 495};
        for (int k = 2; k <= 4; k++) {
            int size = k;
            for (int c = 0; c < 12; c++) {
                int common = c;
                onlyAnswers("profile " + k + " of 12, c " + c, 0, s -> s.profile(0, size, common));
            }
            onlyAnswers("profile " + k + " of 12, c 12", sets[k - 2], s -> s.profile(0, size, 12));
        }
        for (int n = 1; n <= 5; n++) {
            int rows = n;
            takes("table", n == 1 ? 2 : 0, s -> s.table(1, rows));
            onlyAnswers("pairs of " + n, n * (n - 1) / 2, s -> s.profile(1, 2, rows));
            onlyAnswers("threes of " + n, n < 3 ? 0 : n == 3 ? 1 : n == 4 ? 4 : 10, s -> s.profile(1, 3, rows));
            onlyAnswers("fours of " + n, n < 4 ? 0 : n == 4 ? 1 : 5, s -> s.profile(1, 4, rows));
        }
        takes("bordered", 1, s -> s.bordered(9, 11));
        onlyAnswers("c 0", 66, s -> s.profile(9, 2, 0));
        layTable(2, 0, "--- --+ +--");
        onlyAnswers("profile without signs", 3, s -> s.profile(2, 2, 1));
        onlyAnswers("profile without signs", 1, s -> s.profile(2, 3, 1));
        takes("set", 0, s -> s.set(2, 2, 2, 0, false));
        finds("profile of a 0", UNLIKE, s -> s.profile(2, 2, 0));
        finds("profile of a 0, more rows than there are", UNLIKE, s -> s.profile(2, 4, 12));
        bad("profile: BAD ahead of UNLIKE", s -> s.profile(2, 5, 0));
    }

    private static void mayBeLikeEdges() {
        begin(26);
        missingTables("mayBeLike, both", (s, t) -> s.mayBeLike(t, t));
        layTable(0, 4, "0");
        missingTables("mayBeLike: NOTHING ahead of UNLIKE", (s, t) -> s.mayBeLike(t == 0 ? 1 : t, 0));
        missingTables("mayBeLike, the other", (s, t) -> s.mayBeLike(0, t == 0 ? 1 : t));
        badTable("mayBeLike", (s, t) -> s.mayBeLike(t, 1));
        badTable("mayBeLike, the other", (s, t) -> s.mayBeLike(1, t));
        layTable(1, 2, "+");
        layTable(2, 2, "-");
        finds("mayBeLike of a 0", UNLIKE, s -> s.mayBeLike(0, 1));
        finds("mayBeLike of a 0, the other", UNLIKE, s -> s.mayBeLike(1, 0));
        onlyAnswers("mayBeLike of 1", 1, s -> s.mayBeLike(1, 2));
        takes("table", 0, s -> s.table(3, 2));
        finds("mayBeLike of 1 and 2", UNLIKE, s -> s.mayBeLike(1, 3));
        finds("mayBeLike of 2 and 1", UNLIKE, s -> s.mayBeLike(3, 1));
        takes("table", 0, s -> s.table(8, 12));
        takes("bordered", 1, s -> s.bordered(9, 11));
        onlyAnswers("mayBeLike of 12: not", 0, s -> s.mayBeLike(8, 9));
        onlyAnswers("mayBeLike itself", 1, s -> s.mayBeLike(9, 9));
        takes("set", 0, s -> s.set(8, 11, 11, 0, false));
        finds("mayBeLike with a 0 at the last place", UNLIKE, s -> s.mayBeLike(9, 8));
        layTable(4, 0, "+++ +++ +++");
        layTable(5, 0, "-++ -++ -++");
        onlyAnswers("threes have another COMMON", 0, s -> s.profile(5, 3, 3));
        onlyAnswers("threes are not asked for", 1, s -> s.mayBeLike(4, 5));
        layTable(4, 1, "++++ +-+- ++-- +--+");
        layTable(5, 2, ROUND_OF_4);
        onlyAnswers("whatever their KINDS", 1, s -> s.mayBeLike(4, 5));
    }

    private static void likeEdges() {
        begin(27);
        missingTables("like, both", (s, t) -> s.like(t, t));
        layTable(0, 4, "0");
        missingTables("like: NOTHING ahead of UNLIKE", (s, t) -> s.like(t == 0 ? 1 : t, 0));
        missingTables("like, the other", (s, t) -> s.like(0, t == 0 ? 1 : t));
        badTable("like", (s, t) -> s.like(t, 1));
        badTable("like, the other", (s, t) -> s.like(1, t));
        layTable(1, 2, "+");
        layTable(2, 2, "-");
        finds("like of a 0", UNLIKE, s -> s.like(0, 1));
        finds("like of a 0, the other", UNLIKE, s -> s.like(1, 0));
        onlyAnswers("like of 1", 1, s -> s.like(1, 2));
        for (int n = 2; n <= 12; n++) {
            int size = n;
            takes("table", 0, s -> s.table(3, size));
            takes("table", 0, s -> s.table(4, size));
            takes("turn", 0, s -> s.turn(4, 1, 2));
            if (n <= 4) {
                onlyAnswers("like of " + n, 1, s -> s.like(3, 4));
            } else {
                finds("like of " + n, SIZE, s -> s.like(3, 4));
                finds("like itself of " + n, SIZE, s -> s.like(3, 3));
            }
            finds("like of " + n + " and 1: UNLIKE ahead of SIZE", UNLIKE, s -> s.like(3, 1));
            finds("like of 1 and " + n + ": UNLIKE ahead of SIZE", UNLIKE, s -> s.like(1, 3));
        }
        takes("table", 0, s -> s.table(5, 11));
        finds("like of 12 and 11: UNLIKE ahead of SIZE", UNLIKE, s -> s.like(3, 5));
        takes("set", 0, s -> s.set(4, 11, 11, 0, false));
        finds("like of a 0: UNLIKE ahead of SIZE", UNLIKE, s -> s.like(3, 4));
        finds("like of a 0: UNLIKE ahead of SIZE", UNLIKE, s -> s.like(4, 3));
    }

    private static void likeIsNot() {
        begin(27);
        layTable(0, 0, "++ ++");
        layTable(1, 1, "-+ ++");
        onlyAnswers("like of 2: not", 0, s -> s.like(0, 1));
        layTable(2, 1, "-- +-");
        onlyAnswers("like of 2", 1, s -> s.like(1, 2));
        layTable(3, 0, "+++ +++ ++-");
        layTable(4, 0, "-++ +++ +++");
        layTable(5, 0, "+++ +-+ ++-");
        onlyAnswers("like of 3", 1, s -> s.like(3, 4));
        onlyAnswers("like of 3: not", 0, s -> s.like(3, 5));
        layTable(6, 0, "++++ ++++ ++++ ++--");
        layTable(7, 0, "++++ ++++ +++- +++-");
        onlyAnswers("rows for columns are not asked for", 0, s -> s.like(6, 7));
        onlyAnswers("nor the other way", 0, s -> s.like(7, 6));
        layTable(8, 2, ROUND_OF_4);
        layTable(9, 1, "++++ +-+- ++-- +--+");
        onlyAnswers("whatever their KINDS", 1, s -> s.like(8, 9));
    }

    private static void excessEdges() {
        begin(28);
        missingTables("excess", (s, t) -> s.excess(t));
        badTable("excess", (s, t) -> s.excess(t));
        String[] tables = {"+", "-", "0", "00 00", "-- --", "+- -+", "++ +-", "-+ ++", "0- -0", "++- ++- ++-",
            "-++ -++ -++", "+-- +-- +--", "+00 0-0 00+"};
        int[] kinds = {2, 2, 4, 0, 0, 0, 1, 1, 4, 0, 0, 0, 0};
        int[] sums = {1, 1, 0, 0, 4, 4, 2, 2, 2, 9, 9, 9, 3};
        int[] bits = {0, 0, 0, 0, 0, 1, 0, 0, 0, 3, 1, 1, 0};
        for (int i = 0; i < tables.length; i++) {
            layTable(0, kinds[i], tables[i]);
            answersAndAsks("excess of " + tables[i], sums[i], bits[i], s -> s.excess(0));
        }
        takes("table", 0, s -> s.table(9, 12));
        answersAndAsks("the greatest excess", 144, 0, s -> s.excess(9));
        takes("turn", 0, s -> s.turn(9, 4095, 2048));
        answersAndAsks("the last column need not turn", 144, 2047, s -> s.excess(9));
        takes("turn", 0, s -> s.turn(9, 5, 1024));
        answersAndAsks("the least of two sets", 144, 1023, s -> s.excess(9));
        shows("the TABLE stays", 1, s -> s.at(9, 0, 0));
    }

    private static void peakEdges() {
        begin(29);
        missingTables("peak", (s, t) -> s.peak(t));
        badTable("peak", (s, t) -> s.peak(t));
        String[] tables = {"+", "-", "0", "00 00", "-- --", "+- -+", "++ +-", "0- -0", "+++ +++ +++",
            "+0+ +0+ +0+", "0++ 0++ 0++", "+++ 000 000", "000 000 +++", "--- -++ +--"};
        int[] kinds = {2, 2, 4, 0, 0, 0, 1, 4, 0, 0, 0, 0, 0, 0};
        int[] peaks = {1, 1, 0, 0, 0, 0, 2, 1, 1, 0, 0, 1, 1, 1};
        int[] bits = {0, 0, 0, 0, 1, 0, 0, 0, 1, 1, 2, 1, 1, 2};
        for (int i = 0; i < tables.length; i++) {
            layTable(0, kinds[i], tables[i]);
            answersAndAsks("peak of " + tables[i], peaks[i], bits[i], s -> s.peak(0));
        }
        takes("table", 0, s -> s.table(9, 12));
        answersAndAsks("peak of 12, all 1", 0, 63, s -> s.peak(9));
        takes("turn", 0, s -> s.turn(9, 1, 63));
        answersAndAsks("peak of 12, the half turned", 0, 0, s -> s.peak(9));
        takes("table", 0, s -> s.table(9, 11));
        answersAndAsks("peak of 11: not 0", 1, 31, s -> s.peak(9));
    }

    private static void blockEdges() {
        begin(30);
        missingTables("block", (s, t) -> s.block(t, 0));
        missingTables("block: NOTHING ahead of BEYOND", (s, t) -> s.block(t, -1));
        badTable("block", (s, t) -> s.block(t, -1));
        String[] small = {"+", "-", "++ +-", "-+ ++"};
        for (int i = 0; i < small.length; i++) {
            layTable(0, i < 2 ? 2 : 1, small[i]);
            finds("block of " + small[i], SIZE, s -> s.block(0, 0));
            finds("block of " + small[i] + ": SIZE ahead of BEYOND", SIZE, s -> s.block(0, 5));
            finds("block of " + small[i] + ": SIZE ahead of BEYOND", SIZE, s -> s.block(0, -1));
        }
        layTable(0, 0, "++ ++");
        finds("block: UNLIKE ahead of SIZE", UNLIKE, s -> s.block(0, 0));
        layTable(0, 4, "0");
        finds("block: UNLIKE ahead of SIZE", UNLIKE, s -> s.block(0, 0));
        layTable(0, 0, "++++ ++++ ++++ ++++");
        finds("block: UNLIKE ahead of BEYOND", UNLIKE, s -> s.block(0, 3));
        layTable(0, 0, "+++++ +++++ +++++ +++++ +++++");
        finds("block of no SQUARE", UNLIKE, s -> s.block(0, 0));
        layTable(0, 2, ROUND_OF_4);
        onlyAnswers("block 0 of a ROUND", 0b001, s -> s.block(0, 0));
        onlyAnswers("block 1 of a ROUND", 0b010, s -> s.block(0, 1));
        onlyAnswers("block 2 of a ROUND", 0b100, s -> s.block(0, 2));
        beyond("block of 4", 3, (s, i) -> s.block(0, i));
        takes("bordered", 1, s -> s.bordered(9, 7));
        beyond("block of 8", 7, (s, i) -> s.block(9, i));
        takes("bordered", 1, s -> s.bordered(9, 11));
        beyond("block of 12", 11, (s, i) -> s.block(9, i));
    }

    /** However a SQUARE is turned, BLOCKS are of its NORMAL one, and share as many as they must. */
    private static void blockTurned() {
        begin(30);
        for (int p : new int[] {3, 7, 11}) {
            int n = p + 1;
            takes("bordered", 1, s -> s.bordered(0, p));
            takes("bordered", 1, s -> s.bordered(1, p));
            takes("turn", 1, s -> s.turn(1, 5, 6));
            for (int i = 0; i < p; i++) {
                int block = i, bits = x.block(0, i);
                onlyAnswers("block " + i + " of one turned", bits, s -> s.block(1, block));
                due("so many in block " + i + " of " + n, n / 2 - 1, Integer.bitCount(bits));
                due("no column behind the last", 0, bits >> p);
                for (int j = 0; j < i; j++) {
                    due("two of " + n + " share", n / 4 - 1, Integer.bitCount(bits & x.block(0, j)));
                }
            }
        }
    }
}
