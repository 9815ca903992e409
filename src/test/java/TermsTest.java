import java.math.BigInteger;
import java.util.function.IntSupplier;

/** The sentences of "Terms" that speak of every call or name a boundary, each in a test of its own. */
public final class TermsTest {
    private static final int MIN = Integer.MIN_VALUE;
    private static final int MAX = Integer.MAX_VALUE;
    private static final Due DUE = new Due();

    public static void main(String[] args) {
        DUE.test("leastAndGreatestSize", TermsTest::leastAndGreatestSize);
        DUE.test("numbersOfCells", TermsTest::numbersOfCells);
        DUE.test("noTwoInOneLine", TermsTest::noTwoInOneLine);
        DUE.test("onTheBoardIfAllCellsAre", TermsTest::onTheBoardIfAllCellsAre);
        DUE.test("fullHasAllRooks", TermsTest::fullHasAllRooks);
        DUE.test("signOfFewestAndMostPairs", TermsTest::signOfFewestAndMostPairs);
        DUE.test("worthOfNoRooks", TermsTest::worthOfNoRooks);
        DUE.test("sumsWrap", TermsTest::sumsWrap);
        DUE.test("productsWrap", TermsTest::productsWrap);
        DUE.test("signTimesWorthWraps", TermsTest::signTimesWorthWraps);
        DUE.test("longProductsWrap", TermsTest::longProductsWrap);
        DUE.test("orderFirstRowDecides", TermsTest::orderFirstRowDecides);
        DUE.test("orderRookBeforeNone", TermsTest::orderRookBeforeNone);
        DUE.test("orderLesserColumnFirst", TermsTest::orderLesserColumnFirst);
        DUE.test("noCallThrows", TermsTest::noCallThrows);
        DUE.test("refusedForTheCell", TermsTest::refusedForTheCell);
        DUE.test("refusedExchange", TermsTest::refusedExchange);
        DUE.test("refusedForTheRooks", TermsTest::refusedForTheRooks);
        DUE.test("refusedColumn", TermsTest::refusedColumn);
        DUE.test("wrongCellTestedFirst", TermsTest::wrongCellTestedFirst);
        DUE.test("lastOfThe512Calls", TermsTest::lastOfThe512Calls);
        DUE.end();
    }

    /** "There are n rows and n columns (n from 1 to 6)" */
    private static void leastAndGreatestSize() {
        for (int n = 1; n <= 6; n++) {
            RookBoards x = Due.full(n);
            DUE.same("Terms, size " + n + ": cells", x.cells(), n * n);
            DUE.same("Terms, size " + n + ": the last row", x.exchange(0, n - 1), 0);
            DUE.same("Terms, size " + n + ": a row too many", x.exchange(0, n), -1);
            DUE.same("Terms, size " + n + ": the last column", x.column(1, n - 1, 0), n - 1);
        }
    }

    /** "cell (row r, column c) has number 6 r + c": 6, not n, also on a small board. */
    private static void numbersOfCells() {
        for (int n = 1; n <= 6; n++) {
            for (int r = 0; r < n; r++) {
                for (int c = 0; c < n; c++) {
                    RookBoards x = new RookBoards(n);
                    x.set(6 * r + c, 1);
                    String name = "Terms, number of a cell: n " + n + ", cell " + (6 * r + c);
                    for (int row = 0; row < n; row++) {
                        DUE.same(name + ", row " + row, x.column(1, 0, row), row == r ? c : n);
                    }
                }
            }
        }
    }

    /** "no two of them in one row or in one column" */
    private static void noTwoInOneLine() {
        for (int n = 2; n <= 6; n++) {
            for (int line = 0; line < n; line++) {
                RookBoards row = new RookBoards(n);
                RookBoards column = new RookBoards(n);
                for (int c = 0; c < n; c++) {
                    row.set(6 * line + c, 1);
                    column.set(6 * c + line, 1);
                }
                String name = "Terms, one line: n " + n + ", line " + line;
                DUE.same(name + ", two in a row", row.rooks(2), 0);
                DUE.same(name + ", two in a column", column.rooks(2), 0);
                DUE.same(name + ", one in a row", row.rooks(1), n);
                DUE.same(name + ", one in a column", column.rooks(1), n);
            }
        }
    }

    /** "it is ON the board if all its cells are": no cell at all is enough for no rooks. */
    private static void onTheBoardIfAllCellsAre() {
        for (int n = 1; n <= 6; n++) {
            RookBoards x = Due.diagonal(n);
            DUE.same("Terms, on the board: all cells, n " + n, x.rooks(n), 1);
            x.set(6 * (n - 1) + n - 1, 0);
            DUE.same("Terms, on the board: all but one, n " + n, x.rooks(n), 0);
            RookBoards empty = new RookBoards(n);
            DUE.same("Terms, on the board: no rooks, n " + n, empty.rooks(0), 1);
        }
    }

    /** "A FULL placement has n rooks.": n - 1 are too few. */
    private static void fullHasAllRooks() {
        for (int n = 1; n <= 6; n++) {
            RookBoards x = Due.full(n);
            for (int c = 0; c < n; c++) {
                x.set(c, 0);
            }
            DUE.same("Terms, full: no rook in row 0, n " + n, x.signedSum(), 0);
            DUE.same("Terms, full: n - 1 cells on the board, n " + n, x.hits(n), 0);
            DUE.same("Terms, full: the n-th beside the board, n " + n, x.hits(n - 1), factorial(n));
        }
    }

    /** "Its SIGN is 1 or -1": no pair at all is even; the other end is every pair. */
    private static void signOfFewestAndMostPairs() {
        int[] everyPair = {1, -1, -1, 1, 1, -1};
        for (int n = 1; n <= 6; n++) {
            DUE.same("Terms, sign: no pair, n " + n, Due.diagonal(n).signedSum(), 1);
            RookBoards x = new RookBoards(n);
            for (int r = 0; r < n; r++) {
                x.set(6 * r + n - 1 - r, 1);
            }
            DUE.same("Terms, sign: every pair, n " + n, x.signedSum(), everyPair[n - 1]);
        }
    }

    /** "(1 for no rooks)": whatever the board and the weights. */
    private static void worthOfNoRooks() {
        for (int n = 1; n <= 6; n++) {
            DUE.same("Terms, worth of no rooks: empty, n " + n, new RookBoards(n).sum(0), 1);
            DUE.same("Terms, worth of no rooks: full, n " + n, Due.full(n).sum(0), 1);
            RookBoards x = Due.full(n);
            for (int cell = 0; cell < 36; cell++) {
                x.weight(cell, 0);
            }
            DUE.same("Terms, worth of no rooks: weights 0, n " + n, x.sum(0), 1);
        }
    }

    private static RookBoards twoByTwo(String row0, String row1, int a, int b, int c, int d) {
        RookBoards x = Due.board(row0, row1);
        x.weight(0, a);
        x.weight(1, b);
        x.weight(6, c);
        x.weight(7, d);
        return x;
    }

    /** "All arithmetic is that of Java ints and wraps.": sums. */
    private static void sumsWrap() {
        String name = "Terms, sums wrap: ";
        DUE.same(name + "MAX + 1", twoByTwo("##", "..", MAX, 1, 1, 1).sum(1), MIN);
        DUE.same(name + "MIN - 1", twoByTwo("##", "..", MIN, -1, 1, 1).sum(1), MAX);
        DUE.same(name + "MIN + MIN", twoByTwo("#.", ".#", MIN, 1, 1, MIN).sum(1), 0);
        DUE.same(name + "MAX + MAX", twoByTwo("#.", ".#", MAX, 1, 1, MAX).sum(1), -2);
        DUE.same(name + "out and back", twoByTwo("##", "#.", MAX, MAX, MIN, 1).sum(1), MAX - 1);
        DUE.same(name + "of two worths", twoByTwo("##", "##", MAX, 1, 1, 1).sum(2), MIN);
        DUE.same(name + "signed, up", twoByTwo("##", "##", MAX, -1, 1, 1).signedSum(), MIN);
        DUE.same(name + "signed, down", twoByTwo("##", "##", MIN, 1, 1, 1).signedSum(), MAX);
    }

    /** "All arithmetic is that of Java ints and wraps.": products. */
    private static void productsWrap() {
        int[][] factors = {{65536, 65536, 0}, {65536, 32768, MIN}, {46341, 46341, -2147479015},
            {MIN, -1, MIN}, {MIN, MIN, 0}, {MAX, MAX, 1}, {MAX, MIN, MIN}, {MAX, 2, -2},
            {MIN, 2, 0}, {-1, MAX, -MAX}};
        for (int[] f : factors) {
            String name = "Terms, products wrap: " + f[0] + " times " + f[1];
            RookBoards x = twoByTwo("#.", ".#", f[0], 1, 1, f[1]);
            DUE.same(name + ", sum(2)", x.sum(2), f[2]);
            DUE.same(name + ", signedSum()", x.signedSum(), f[2]);
        }
    }

    /** "All arithmetic is that of Java ints and wraps.": -1 times the least int is itself. */
    private static void signTimesWorthWraps() {
        String name = "Terms, sign times worth wraps: ";
        DUE.same(name + "MIN", twoByTwo(".#", "#.", 1, MIN, 1, 1).signedSum(), MIN);
        DUE.same(name + "MAX", twoByTwo(".#", "#.", 1, MAX, 1, 1).signedSum(), -MAX);
        DUE.same(name + "-MAX", twoByTwo(".#", "#.", 1, -MAX, 1, 1).signedSum(), MAX);
        DUE.same(name + "a product that is MIN", twoByTwo(".#", "#.", 1, 65536, 32768, 1).signedSum(), MIN);
    }

    /** "All arithmetic is that of Java ints and wraps.": up to six great factors, past long as well. */
    private static void longProductsWrap() {
        for (int n = 1; n <= 6; n++) {
            BigInteger worth = BigInteger.ONE;
            RookBoards x = Due.diagonal(n);
            for (int r = 0; r < n; r++) {
                int w = r % 2 == 0 ? MAX - 12 * r : MIN + 77 * r;
                x.weight(7 * r, w);
                worth = worth.multiply(BigInteger.valueOf(w));
            }
            DUE.same("Terms, long products wrap: sum(n), n " + n, x.sum(n), worth.intValue());
            DUE.same("Terms, long products wrap: signedSum(), n " + n, x.signedSum(), worth.intValue());
            RookBoards full = Due.full(n);
            for (int cell = 0; cell < 36; cell++) {
                full.weight(cell, MAX);
            }
            // The square of MAX wraps to 1.
            int each = n % 2 == 0 ? 1 : MAX;
            DUE.same("Terms, long products wrap: all MAX, n " + n, full.sum(n), each * factorial(n));
        }
    }

    private static void placementsAre(String name, RookBoards x, int n, int k, String... placements) {
        for (int i = 0; i < placements.length; i++) {
            for (int r = 0; r < n; r++) {
                String call = name + ", column(" + k + ", " + i + ", " + r + ")";
                DUE.same(call, x.column(k, i, r), placements[i].charAt(r) - '0');
            }
        }
        DUE.same(name + ", no more of " + k, x.column(k, placements.length, 0), -4);
    }

    /** "in the first row in which they differ": the rows after it have no say. */
    private static void orderFirstRowDecides() {
        RookBoards x = Due.board("##.", "###", "###");
        placementsAre("Terms, order: the first row decides", x, 3, 3, "012", "021", "102", "120");
        x = Due.board("#..", ".##", ".##");
        placementsAre("Terms, order: the first row is the same", x, 3, 3, "012", "021");
        x = Due.board("#...", ".#..", "..##", "..##");
        placementsAre("Terms, order: the first two rows are the same", x, 4, 4, "0123", "0132");
    }

    /** "the one with a rook there comes before the one with none" */
    private static void orderRookBeforeNone() {
        RookBoards x = Due.board("..#", ".#.", "#..");
        placementsAre("Terms, order: a rook before none", x, 3, 1, "233", "313", "330");
        placementsAre("Terms, order: a rook before none", x, 3, 2, "213", "230", "310");
        RookBoards six = Due.diagonal(6);
        placementsAre("Terms, order: a rook before none", six, 6, 5,
            "012346", "012365", "012645", "016345", "062345", "612345");
    }

    /** "and the one with the rook in the lesser column before the other one" */
    private static void orderLesserColumnFirst() {
        RookBoards x = Due.board("...", "###", "...");
        placementsAre("Terms, order: the lesser column first", x, 3, 1, "303", "313", "323");
        x = Due.board("##.", "...", "#.#");
        placementsAre("Terms, order: the lesser column first", x, 3, 2, "032", "130", "132");
        x = Due.board("......", "......", "......", "......", "......", "######");
        placementsAre("Terms, order: the lesser column first", x, 6, 1,
            "666660", "666661", "666662", "666663", "666664", "666665");
    }

    private static final int[] ENDS = {MIN, MIN + 1, -37, -36, -7, -6, -4, -1, 0, 1, 2, 3, 4, 5, 6, 7, 8,
        30, 31, 32, 35, 36, 37, 63, 64, 65, 719, 720, 5399, 5400, MAX - 1, MAX};

    private static int callsLeft = 0;
    private static RookBoards busy;

    private static RookBoards made(int size, int kind) {
        if (kind == 0) {
            return new RookBoards(size);
        }
        return kind == 1 ? Due.full(size) : Due.marked(Math.max(1, Math.min(6, size)));
    }

    /** The object of the present run, or a new one when its 512 calls are near. */
    private static RookBoards ready(int size, int kind) {
        if (callsLeft == 0) {
            busy = made(size, kind);
            callsLeft = 400;
        }
        callsLeft--;
        return busy;
    }

    private static void doesNotThrow(String call, IntSupplier body) {
        try {
            body.getAsInt();
        } catch (Throwable thrown) {
            DUE.same("Terms, no call throws: " + call + " threw " + thrown, 1, 0);
        }
    }

    /** "No call ever throws.": any arguments, on an empty, a full and an uneven board of each size. */
    private static void noCallThrows() {
        for (int size : new int[] {MIN, -1, 0, 1, 2, 3, 4, 5, 6, 7, 36, MAX}) {
            for (int kind = 0; kind < 3; kind++) {
                callsLeft = 0;
                noCallThrowsOn(size, kind);
            }
        }
    }

    private static void noCallThrowsOn(int size, int kind) {
        String name = "size " + size + ", kind " + kind + ", ";
        for (int a : ENDS) {
            doesNotThrow(name + "rooks " + a, () -> ready(size, kind).rooks(a));
            doesNotThrow(name + "hits " + a, () -> ready(size, kind).hits(a));
            doesNotThrow(name + "sum " + a, () -> ready(size, kind).sum(a));
            for (int b : ENDS) {
                String two = a + ", " + b;
                doesNotThrow(name + "through " + two, () -> ready(size, kind).through(a, b));
                doesNotThrow(name + "exchange " + two, () -> ready(size, kind).exchange(a, b));
                doesNotThrow(name + "weight " + two, () -> ready(size, kind).weight(a, b));
                // On a fresh object, so that the boards of this kind stay as they are.
                doesNotThrow(name + "set " + two, () -> new RookBoards(size).set(a, b));
                for (int c : ENDS) {
                    doesNotThrow(name + "column " + two + ", " + c, () -> ready(size, kind).column(a, b, c));
                }
            }
        }
        RookBoards x = made(size, kind);
        doesNotThrow(name + "complement", x::complement);
        doesNotThrow(name + "turn", x::turn);
        doesNotThrow(name + "cells", x::cells);
        doesNotThrow(name + "signedSum", x::signedSum);
        doesNotThrow(name + "most", x::most);
        doesNotThrow(name + "lines", x::lines);
        doesNotThrow(name + "needed", x::needed);
    }

    /** "A refused call answers the code named and changes nothing.": set, weight and through. */
    private static void refusedForTheCell() {
        for (int n = 1; n <= 6; n++) {
            RookBoards on = Due.marked(n);
            RookBoards off = Due.marked(n);
            RookBoards weighted = Due.marked(n);
            RookBoards through = Due.marked(n);
            for (int cell = -44; cell <= 80; cell++) {
                if (!Due.isCell(n, cell)) {
                    String name = "Terms, refused: n " + n + ", cell " + cell + ", ";
                    DUE.same(name + "set to 1", on.set(cell, 1), -1);
                    DUE.same(name + "set to 0", off.set(cell, 0), -1);
                    DUE.same(name + "weight", weighted.weight(cell, 7), -1);
                    DUE.same(name + "through", through.through(cell, 1), -1);
                }
            }
            DUE.isStillMarked("Terms, changes nothing: set to 1 refused, n " + n, on, n);
            DUE.isStillMarked("Terms, changes nothing: set to 0 refused, n " + n, off, n);
            DUE.isStillMarked("Terms, changes nothing: weight refused, n " + n, weighted, n);
            DUE.isStillMarked("Terms, changes nothing: through refused, n " + n, through, n);
        }
    }

    /** "A refused call answers the code named and changes nothing.": exchange, either row wrong. */
    private static void refusedExchange() {
        for (int n = 1; n <= 6; n++) {
            RookBoards x = Due.marked(n);
            for (int bad : new int[] {-1, -n, n, n + 1, 7, MIN, MAX}) {
                for (int good = 0; good < n; good++) {
                    String name = "Terms, refused: n " + n + ", exchange ";
                    DUE.same(name + good + ", " + bad, x.exchange(good, bad), -1);
                    DUE.same(name + bad + ", " + good, x.exchange(bad, good), -1);
                }
                DUE.same("Terms, refused: n " + n + ", exchange, both " + bad, x.exchange(bad, bad), -1);
            }
            DUE.isStillMarked("Terms, changes nothing: exchange refused, n " + n, x, n);
        }
    }

    /** "A refused call answers the code named and changes nothing.": rooks, hits, through and sum. */
    private static void refusedForTheRooks() {
        for (int n = 1; n <= 6; n++) {
            RookBoards x = Due.marked(n);
            for (int bad : new int[] {-1, -n, n + 1, n + 2, 64, MIN, MAX}) {
                String name = "Terms, refused: n " + n + ", k " + bad + ", ";
                DUE.same(name + "rooks", x.rooks(bad), -1);
                DUE.same(name + "hits", x.hits(bad), -1);
                DUE.same(name + "through", x.through(0, bad), -1);
                DUE.same(name + "sum", x.sum(bad), -1);
            }
            DUE.isStillMarked("Terms, changes nothing: a k refused, n " + n, x, n);
        }
    }

    /** "A refused call answers the code named and changes nothing.": column, with each of its codes. */
    private static void refusedColumn() {
        for (int n = 1; n <= 6; n++) {
            RookBoards x = Due.marked(n);
            int ones = x.rooks(1);
            for (int bad : new int[] {-1, n + 1, MIN, MAX}) {
                String name = "Terms, refused: n " + n + ", column, ";
                DUE.same(name + "k " + bad, x.column(bad, 0, 0), -1);
                DUE.same(name + "r " + bad, x.column(1, 0, bad), -1);
            }
            for (int bad : new int[] {-1, ones, MIN, MAX}) {
                DUE.same("Terms, refused: n " + n + ", column, i " + bad, x.column(1, bad, 0), -4);
            }
            DUE.isStillMarked("Terms, changes nothing: column refused, n " + n, x, n);
        }
    }

    /** "In every call a cell that is not one of the n times n ones answers BAD_ARG, tested first." */
    private static void wrongCellTestedFirst() {
        for (int n = 1; n <= 6; n++) {
            int[] wrong = {-1, -6, n == 6 ? 36 : n, n == 6 ? 41 : 5, 6 * n, 6 * n + n - 1, 36, MIN, MAX};
            for (int cell : wrong) {
                RookBoards x = Due.full(n);
                String name = "Terms, a wrong cell first: n " + n + ", cell " + cell + ", ";
                for (int other : new int[] {MIN, -1, 0, 1, n, n + 1, MAX}) {
                    DUE.same(name + "set to " + other, x.set(cell, other), -1);
                    DUE.same(name + "weight " + other, x.weight(cell, other), -1);
                    DUE.same(name + "through, k " + other, x.through(cell, other), -1);
                }
            }
        }
    }

    /** "An object is used for at most 512 calls": the 512th still answers as due. */
    private static void lastOfThe512Calls() {
        RookBoards x = Due.full(6);
        x.set(35, 0);
        for (int call = 3; call < 512; call++) {
            x.column(6, call, call % 6);
        }
        DUE.same("What it is: the 512th call", x.rooks(6), 600);
    }

    private static int factorial(int n) {
        int product = 1;
        for (int i = 2; i <= n; i++) {
            product *= i;
        }
        return product;
    }
}
