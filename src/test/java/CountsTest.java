/** Promises 7 to 12: the counts and the sums. */
public final class CountsTest {
    private static final int MIN = Integer.MIN_VALUE;
    private static final int MAX = Integer.MAX_VALUE;
    private static final Due DUE = new Due();

    public static void main(String[] args) {
        DUE.test("cells", CountsTest::cells);
        DUE.test("rooks", CountsTest::rooks);
        DUE.test("hits", CountsTest::hits);
        DUE.test("through", CountsTest::through);
        DUE.test("sum", CountsTest::sum);
        DUE.test("signedSum", CountsTest::signedSum);
        DUE.test("wrongCounts", CountsTest::wrongCounts);
        DUE.end();
    }

    private static void cells() {
        DUE.same("7: none", Due.board("...", "...", "...").cells(), 0);
        DUE.same("7: some", Due.board("#..", ".##", "..#").cells(), 4);
        RookBoards x = Due.board("###", "###", "###");
        DUE.same("7: all", x.cells(), 9);
        x.set(14, 0);
        DUE.same("7: one gone", x.cells(), 8);
    }

    private static void rooksAre(String name, RookBoards x, int... want) {
        for (int k = 0; k < want.length; k++) {
            DUE.same("8: " + name + ", rooks(" + k + ")", x.rooks(k), want[k]);
        }
    }

    private static void rooks() {
        rooksAre("empty", new RookBoards(6), 1, 0, 0, 0, 0, 0, 0);
        RookBoards full = new RookBoards(6);
        full.complement();
        rooksAre("full", full, 1, 36, 450, 2400, 5400, 4320, 720);
        rooksAre("steps", Due.board("#...", "##..", "###.", "####"), 1, 10, 25, 15, 1);
        rooksAre("one row", Due.board("...", "###", "..."), 1, 3, 0, 0);
        rooksAre("one column", Due.board(".#.", ".#.", ".#."), 1, 3, 0, 0);
        rooksAre("n 1", Due.board("#"), 1, 1);
        RookBoards weighted = Due.board("##", "##");
        weighted.weight(0, 0);
        rooksAre("weights do not count", weighted, 1, 4, 2);
    }

    private static void hitsAre(String name, RookBoards x, int... want) {
        for (int k = 0; k < want.length; k++) {
            DUE.same("9: " + name + ", hits(" + k + ")", x.hits(k), want[k]);
        }
    }

    private static void hits() {
        hitsAre("empty", new RookBoards(6), 720, 0, 0, 0, 0, 0, 0);
        hitsAre("the diagonal, n 4", Due.board("#...", ".#..", "..#.", "...#"), 9, 8, 6, 0, 1);
        hitsAre("the diagonal, n 5",
            Due.board("#....", ".#...", "..#..", "...#.", "....#"), 44, 45, 20, 10, 0, 1);
        hitsAre("full", Due.board("###", "###", "###"), 0, 0, 0, 6);
        hitsAre("one row", Due.board("...", "###", "..."), 0, 6, 0, 0);
        hitsAre("one cell", Due.board("...", "..#", "..."), 4, 2, 0, 0);
        hitsAre("n 1", Due.board("#"), 0, 1);
    }

    private static void through() {
        RookBoards x = Due.board("#...", "##..", "###.", "####");
        DUE.same("10: through(0, 0)", x.through(0, 0), 0);
        DUE.same("10: through(0, 1)", x.through(0, 1), 1);
        DUE.same("10: through(0, 2)", x.through(0, 2), 6);
        DUE.same("10: through(0, 4)", x.through(0, 4), 1);
        DUE.same("10: through(18, 4)", x.through(18, 4), 0);
        DUE.same("10: through(18, 2)", x.through(18, 2), 3);
        DUE.same("10: through(21, 2)", x.through(21, 2), 6);
        DUE.same("10: a cell not on the board", x.through(1, 1), 0);
        DUE.same("10: a cell not on the board, 0 rooks", x.through(1, 0), 0);
        for (int cell : new int[] {-1, 4, 5, 10, 24, 35, 36, MIN, MAX}) {
            DUE.same("10: through(" + cell + ", 1)", x.through(cell, 1), -1);
            DUE.same("10: through(" + cell + ", 9)", x.through(cell, 9), -1);
        }
        for (int k : new int[] {-1, 5, 6, MIN, MAX}) {
            DUE.same("10: through(0, " + k + ")", x.through(0, k), -1);
            DUE.same("10: through(1, " + k + "), not on the board", x.through(1, k), -1);
        }
        RookBoards one = new RookBoards(1);
        DUE.same("10: n 1, not on the board", one.through(0, 1), 0);
        one.set(0, 1);
        DUE.same("10: n 1, on the board", one.through(0, 1), 1);
        for (int k : new int[] {0, 1, 2, 3, 4}) {
            int all = 0;
            for (int cell = 0; cell < 22; cell++) {
                all += cell % 6 < 4 ? x.through(cell, k) : 0;
            }
            DUE.same("10: all cells, k " + k, all, k * x.rooks(k));
        }
    }

    /** The weights 2, 3 / 5, 7. */
    private static RookBoards primes() {
        RookBoards x = Due.board("##", "##");
        x.weight(0, 2);
        x.weight(1, 3);
        x.weight(6, 5);
        x.weight(7, 7);
        return x;
    }

    private static void sum() {
        RookBoards x = primes();
        DUE.same("11: sum(0)", x.sum(0), 1);
        DUE.same("11: sum(1)", x.sum(1), 17);
        DUE.same("11: sum(2)", x.sum(2), 29);
        x.set(1, 0);
        DUE.same("11: a cell gone, sum(1)", x.sum(1), 14);
        DUE.same("11: a cell gone, sum(2)", x.sum(2), 14);
        x.weight(0, 65536);
        x.weight(7, 65537);
        DUE.same("11: wraps, sum(2)", x.sum(2), 65536);
        x.weight(0, MAX);
        x.weight(7, 1);
        DUE.same("11: wraps, sum(1)", x.sum(1), MAX + 6);
        x.weight(0, MIN);
        x.weight(7, -1);
        DUE.same("11: MIN times -1", x.sum(2), MIN);
        x.weight(0, 0);
        DUE.same("11: a weight 0", x.sum(2), 0);
        DUE.same("11: empty, sum(0)", new RookBoards(6).sum(0), 1);
        DUE.same("11: empty, sum(1)", new RookBoards(6).sum(1), 0);
    }

    private static void signedSum() {
        RookBoards x = primes();
        DUE.same("12: 2 by 2", x.signedSum(), -1);
        x.exchange(0, 1);
        DUE.same("12: rows exchanged", x.signedSum(), 1);
        x.exchange(0, 1);
        x.set(0, 0);
        DUE.same("12: only the odd placement", x.signedSum(), -15);
        x.set(1, 0);
        DUE.same("12: an empty row", x.signedSum(), 0);
        DUE.same("12: three in a round", Due.board(".#.", "..#", "#..").signedSum(), 1);
        DUE.same("12: three reversed", Due.board("..#", ".#.", "#..").signedSum(), -1);
        DUE.same("12: six reversed", reversed(6).signedSum(), -1);
        DUE.same("12: five reversed", reversed(5).signedSum(), 1);
        DUE.same("12: n 1, empty", new RookBoards(1).signedSum(), 0);
        RookBoards y = reversed(2);
        y.weight(1, MIN);
        DUE.same("12: wraps", y.signedSum(), MIN);
        y.weight(6, 3);
        y.weight(1, MAX);
        DUE.same("12: wraps again", y.signedSum(), -3 * MAX);
    }

    private static RookBoards reversed(int n) {
        RookBoards x = new RookBoards(n);
        for (int r = 0; r < n; r++) {
            x.set(6 * r + n - 1 - r, 1);
        }
        return x;
    }

    private static void wrongCounts() {
        for (int n = 1; n <= 6; n++) {
            RookBoards x = new RookBoards(n);
            x.complement();
            for (int k : new int[] {-1, -4, n + 1, 7, 63, 64, MIN, MAX}) {
                String name = "n " + n + ", k " + k;
                DUE.same("8: rooks, " + name, x.rooks(k), -1);
                DUE.same("9: hits, " + name, x.hits(k), -1);
                DUE.same("11: sum, " + name, x.sum(k), -1);
            }
            DUE.same("8: rooks(n), n " + n, x.rooks(n), x.hits(n));
        }
    }
}
