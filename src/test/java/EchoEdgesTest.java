/** The boundaries that promises 31 to 36 name. */
public final class EchoEdgesTest extends Edges {
    private static final int[] NO_SIGNS = {LEAST, -2, 0, 2, GREATEST};

    public static void main(String[] args) {
        echoEdges();
        echoOfTheLongest();
        sideEdges();
        cancelsEdges();
        cancelsOrNot();
        pairsEdges();
        leastSideEdges();
        longerEdges();
        longerRefused();
        longerTooLong();
        end();
    }

    private static void echoEdges() {
        begin(31);
        for (boolean round : new boolean[] {false, true}) {
            missingRows("echo", (s, r) -> s.echo(r, 0, round));
            missingRows("echo: NOTHING ahead of BEYOND", (s, r) -> s.echo(r, -1, round));
            badRow("echo", (s, r) -> s.echo(r, -1, round));
        }
        takes("row", 0, s -> s.row(0, 0));
        lay(1, 1, -1, 2);
        lay(2, 1, -1, -1, 1);
        lay(5, -1);
        for (boolean round : new boolean[] {false, true}) {
            for (int at : new int[] {LEAST, -1, 0, 1, GREATEST}) {
                finds("echo of none, s " + at, SIZE, s -> s.echo(0, at, round));
                finds("echo of no SIGNS: UNLIKE ahead of BEYOND, s " + at, UNLIKE,
                        s -> s.echo(1, at == 1 ? 3 : at, round));
            }
            beyond("echo", 4, (s, at) -> s.echo(2, at, round));
            beyond("echo of 1", 1, (s, at) -> s.echo(5, at, round));
            asks("echo of 1 at 0", 1, s -> s.echo(5, 0, round));
        }
        int[] straight = {4, -1, -2, 1};
        int[] round = {4, 0, -4, 0};
        for (int i = 0; i < 4; i++) {
            int at = i;
            asks("echo at " + i, straight[i], s -> s.echo(2, at, false));
            asks("round echo at " + i, round[i], s -> s.echo(2, at, true));
        }
        for (int v : NO_SIGNS) {
            lay(3, 1, 1, v);
            finds("echo: " + v + " at the last place is no sign", UNLIKE, s -> s.echo(3, 0, false));
            lay(3, v, 1, 1);
            finds("round echo: " + v + " at the first place is no sign", UNLIKE, s -> s.echo(3, 2, true));
        }
    }

    private static void echoOfTheLongest() {
        begin(31);
        takes("row", 24, s -> s.row(0, 24));
        beyond("echo of 24", 24, (s, at) -> s.echo(0, at, false));
        beyond("round echo of 24", 24, (s, at) -> s.echo(0, at, true));
        for (int i = 0; i < 24; i++) {
            int at = i;
            shows("echo of 24 at " + i, 24 - i, s -> s.echo(0, at, false));
            shows("round echo of 24 at " + i, 24, s -> s.echo(0, at, true));
        }
        asks("lay", 1, s -> s.lay(0, 23, -1));
        for (int i = 1; i < 24; i++) {
            int at = i;
            shows("echo of 24, the last turned, at " + i, 22 - i, s -> s.echo(0, at, false));
            shows("round echo of 24, the last turned, at " + i, 20, s -> s.echo(0, at, true));
        }
        shows("echo of 24, the last turned, at 0", 24, s -> s.echo(0, 0, false));
    }

    private static void sideEdges() {
        begin(32);
        missingRows("side", (s, r) -> s.side(r));
        badRow("side", (s, r) -> s.side(r));
        takes("row", 0, s -> s.row(0, 0));
        finds("side of none", SIZE, s -> s.side(0));
        lay(5, 1);
        onlyAnswers("side of 1", 0, s -> s.side(5));
        lay(5, -1);
        onlyAnswers("side of -1", 0, s -> s.side(5));
        lay(5, 1, -1);
        onlyAnswers("side of 2, its size", 1, s -> s.side(5));
        lay(5, 1, -1, 1, -1);
        onlyAnswers("side: the size, at s above 0", 3, s -> s.side(5));
        lay(5, many(24, -1));
        onlyAnswers("the greatest side", 23, s -> s.side(5));
        for (int v : NO_SIGNS) {
            lay(1, v);
            finds("side of " + v, UNLIKE, s -> s.side(1));
            lay(1, 1, v);
            finds("side, " + v + " at the last place", UNLIKE, s -> s.side(1));
        }
    }

    private static void cancelsEdges() {
        begin(33);
        takes("row", 0, s -> s.row(0, 0));
        lay(1, 1, 1);
        lay(2, 7, 1);
        lay(3, 7, 1, 1);
        for (boolean round : new boolean[] {false, true}) {
            finds("cancels, both missing", NOTHING, s -> s.cancels(4, 5, round));
            finds("cancels: NOTHING ahead of SIZE", NOTHING, s -> s.cancels(5, 0, round));
            finds("cancels: NOTHING ahead of SIZE, the other", NOTHING, s -> s.cancels(0, 5, round));
            badRow("cancels", (s, r) -> s.cancels(r, 5, round));
            badRow("cancels, the other", (s, r) -> s.cancels(5, r, round));
            finds("cancels of none", SIZE, s -> s.cancels(0, 0, round));
            finds("cancels of none and 2", SIZE, s -> s.cancels(0, 1, round));
            finds("cancels of 2 and none", SIZE, s -> s.cancels(1, 0, round));
            finds("cancels: SIZE ahead of UNLIKE", SIZE, s -> s.cancels(2, 3, round));
            finds("cancels: SIZE ahead of UNLIKE", SIZE, s -> s.cancels(3, 1, round));
            finds("cancels of no SIGNS", UNLIKE, s -> s.cancels(2, 1, round));
            finds("cancels of no SIGNS, the other", UNLIKE, s -> s.cancels(1, 2, round));
            finds("cancels of no SIGNS, both", UNLIKE, s -> s.cancels(2, 2, round));
        }
        for (int v : NO_SIGNS) {
            lay(2, 1, v);
            finds("cancels: " + v + " is no sign", UNLIKE, s -> s.cancels(1, 2, false));
        }
    }

    private static void cancelsOrNot() {
        begin(33);
        lay(0, 1);
        lay(5, -1);
        onlyAnswers("one always cancels", 1, s -> s.cancels(0, 5, false));
        onlyAnswers("one is always tidy", 1, s -> s.cancels(5, 0, true));
        onlyAnswers("one with itself", 1, s -> s.cancels(0, 0, false));
        lay(1, 1, 1);
        lay(2, 1, -1);
        onlyAnswers("two", 1, s -> s.cancels(1, 2, false));
        onlyAnswers("two, round", 1, s -> s.cancels(2, 1, true));
        onlyAnswers("two with itself: not", 0, s -> s.cancels(2, 2, false));
        lay(1, 1, 1, -1, 1);
        onlyAnswers("tidy round with itself", 1, s -> s.cancels(1, 1, true));
        onlyAnswers("but it does not cancel", 0, s -> s.cancels(1, 1, false));
        lay(1, 1, 1, 1, -1);
        lay(2, 1, 1, -1, 1);
        onlyAnswers("four", 1, s -> s.cancels(1, 2, false));
        lay(2, 1, 1, -1, -1);
        onlyAnswers("four: not at the last s", 0, s -> s.cancels(1, 2, false));
        takes("row", 24, s -> s.row(1, 24));
        onlyAnswers("24, all 1: not", 0, s -> s.cancels(1, 1, false));
        onlyAnswers("24, all 1: not tidy", 0, s -> s.cancels(1, 1, true));
    }

    private static void pairsEdges() {
        begin(34);
        for (int n : new int[] {LEAST, -1, 0, 9, 10, GREATEST}) {
            bad("pairs(" + n + ")", s -> s.pairs(n));
        }
        int[] pairs = {4, 8, 0, 32, 0, 0, 0, 192};
        for (int n = 1; n <= 8; n++) {
            int size = n;
            onlyAnswers("pairs(" + n + ")", pairs[n - 1], s -> s.pairs(size));
        }
    }

    private static void leastSideEdges() {
        begin(35);
        lay(0, 5, 6, 7);
        for (int n : new int[] {LEAST, -1, 0, 13, 14, GREATEST}) {
            bad("leastSide(" + n + ", 0)", s -> s.leastSide(n, 0));
            bad("leastSide(" + n + ", 1), missing", s -> s.leastSide(n, 1));
        }
        badRow("leastSide", (s, r) -> s.leastSide(1, r));
        badRow("leastSide of 12", (s, r) -> s.leastSide(12, r));
        rowIs("leastSide refused", 0, 5, 6, 7);
        rowIsMissing("leastSide refused", 1);
        int[][] first = {{1}, {1, 1}, {-1, 1, 1}, {-1, 1, 1, 1}, {1, -1, 1, 1, 1}};
        int[] least = {0, 1, 1, 1, 1, 2, 1, 2, 2, 2, 1, 2};
        for (int n = 1; n <= 12; n++) {
            int size = n;
            takes("leastSide(" + n + ", 0)", least[n - 1], s -> s.leastSide(size, 0));
            rowIs("leastSide(" + n + ")", 0, firstOf(n, least[n - 1]));
            if (n <= first.length) {
                rowIs("leastSide(" + n + ") by hand", 0, first[n - 1]);
            }
        }
        takes("leastSide to the last ROW, missing before", 1, s -> s.leastSide(2, 5));
        rowIs("leastSide to the last ROW", 5, 1, 1);
        takes("leastSide to a longer ROW", 0, s -> s.leastSide(1, 0));
        rowIs("leastSide: the ROW is anew", 0, 1);
    }

    /** The first SIGNS by bits whose greatest echo is no greater than told. */
    private static int[] firstOf(int n, int side) {
        for (int bits = 0; bits < 1 << n; bits++) {
            int[] signs = new int[n];
            for (int i = 0; i < n; i++) {
                signs[i] = (bits >> i & 1) == 1 ? -1 : 1;
            }
            boolean fine = true;
            for (int at = 1; at < n; at++) {
                int sum = 0;
                for (int i = 0; i + at < n; i++) {
                    sum += signs[i] * signs[i + at];
                }
                fine &= Math.abs(sum) <= side;
            }
            if (fine) {
                return signs;
            }
        }
        throw new IllegalStateException("no SIGNS of " + n + " have so small a SIDE");
    }

    private static void longerEdges() {
        begin(36);
        lay(0, 1);
        lay(1, -1);
        takes("longer of 1", 2, s -> s.longer(0, 1, 4, 5));
        rowIs("longer of 1", 4, 1, -1);
        rowIs("longer of 1, the other", 5, 1, 1);
        rowIs("the ROWS that it is from stay", 0, 1);
        rowIs("the ROWS that it is from stay", 1, -1);
        takes("longer of one ROW twice", 2, s -> s.longer(1, 1, 2, 3));
        rowIs("longer of one ROW twice", 2, -1, -1);
        rowIs("longer of one ROW twice, the other", 3, -1, 1);
        takes("longer onto both", 4, s -> s.longer(2, 3, 2, 3));
        rowIs("longer onto both", 2, -1, -1, -1, 1);
        rowIs("longer onto both, the other", 3, -1, -1, 1, -1);
        takes("longer onto both, changed", 8, s -> s.longer(2, 3, 3, 2));
        rowIs("longer onto both, changed", 3, -1, -1, -1, 1, -1, -1, 1, -1);
        rowIs("longer onto both, changed, the other", 2, -1, -1, -1, 1, 1, 1, -1, 1);
        takes("longer onto the first of one ROW twice", 2, s -> s.longer(0, 0, 5, 0));
        rowIs("longer onto the first of one ROW twice", 5, 1, 1);
        rowIs("longer onto the first of one ROW twice", 0, 1, -1);
        takes("longer of 8", 16, s -> s.longer(3, 2, 0, 1));
        onlyAnswers("longer of 8 cancels", 1, s -> s.cancels(0, 1, false));
    }

    private static void longerRefused() {
        begin(36);
        finds("longer, both missing", NOTHING, s -> s.longer(0, 1, 2, 3));
        takes("row", 0, s -> s.row(0, 0));
        finds("longer: NOTHING ahead of SIZE", NOTHING, s -> s.longer(0, 5, 2, 3));
        finds("longer: NOTHING ahead of SIZE", NOTHING, s -> s.longer(5, 0, 2, 3));
        finds("longer of none", SIZE, s -> s.longer(0, 0, 2, 3));
        badRow("longer", (s, r) -> s.longer(r, 5, 2, 3));
        badRow("longer, the other", (s, r) -> s.longer(5, r, 2, 3));
        badRow("longer, to", (s, r) -> s.longer(5, 5, r, 3));
        badRow("longer, to another", (s, r) -> s.longer(5, 5, 3, r));
        for (int r = 0; r < 6; r++) {
            int row = r;
            bad("longer to one ROW for both, " + r, s -> s.longer(5, 5, row, row));
        }
        lay(1, 1);
        lay(2, 1, -1);
        lay(3, 8, 9);
        for (int r = 0; r < 6; r++) {
            int row = r;
            bad("longer to one ROW for both, " + r, s -> s.longer(1, 1, row, row));
        }
        finds("longer of none and 1", SIZE, s -> s.longer(0, 1, 3, 4));
        finds("longer of 1 and none", SIZE, s -> s.longer(1, 0, 3, 4));
        finds("longer, not as many", SIZE, s -> s.longer(1, 2, 3, 4));
        finds("longer: SIZE ahead of UNLIKE", SIZE, s -> s.longer(1, 3, 3, 4));
        finds("longer of no SIGNS", UNLIKE, s -> s.longer(2, 3, 3, 4));
        finds("longer of no SIGNS, the first", UNLIKE, s -> s.longer(3, 2, 3, 4));
        refuses("longer of a PAIR that does not CANCEL: STATE, no FINDING", STATE, s -> s.longer(2, 2, 3, 4));
        rowIs("longer refused", 3, 8, 9);
        rowIsMissing("longer refused", 4);
        lay(4, 1, 1, -1, 1);
        onlyAnswers("tidy round", 1, s -> s.cancels(4, 4, true));
        refuses("longer: tidy round does not do", STATE, s -> s.longer(4, 4, 0, 1));
    }

    private static void longerTooLong() {
        begin(36);
        lay(0, 1, 1, -1, 1, -1, 1, -1, -1, 1, 1);
        lay(1, 1, 1, -1, 1, 1, 1, 1, 1, -1, -1);
        takes("longer of 10", 20, s -> s.longer(0, 1, 4, 5));
        onlyAnswers("longer of 10 cancels", 1, s -> s.cancels(4, 5, false));
        finds("longer of 20", SIZE, s -> s.longer(4, 5, 0, 1));
        // No PAIR of 11 or 12 CANCELS, so they are refused, but not for their size.
        takes("row", 12, s -> s.row(2, 12));
        refuses("longer of 12 is not too long", STATE, s -> s.longer(2, 2, 0, 1));
        takes("row", 13, s -> s.row(2, 13));
        finds("longer of 13 is too long", SIZE, s -> s.longer(2, 2, 0, 1));
        takes("lay", 1, s -> s.lay(2, 0, 0));
        finds("longer of 13: SIZE ahead of UNLIKE", SIZE, s -> s.longer(2, 2, 0, 1));
        takes("row", 24, s -> s.row(3, 24));
        finds("longer of 24", SIZE, s -> s.longer(3, 3, 0, 1));
        finds("longer of 24 and 13", SIZE, s -> s.longer(3, 2, 0, 1));
        bad("longer of 24 to one ROW for both", s -> s.longer(3, 3, 0, 0));
    }
}
