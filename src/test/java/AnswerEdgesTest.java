/** The boundary cases that promises 7 to 16 name, each sentence in a test of its own. */
public final class AnswerEdgesTest {
    private static final int MIN = Integer.MIN_VALUE;
    private static final int MAX = Integer.MAX_VALUE;
    private static final int[] FAR_BELOW = {-1, -2, -4, -6, -64, MIN + 1, MIN};
    private static final Due DUE = new Due();

    public static void main(String[] args) {
        DUE.test("cellsOfEmptyAndFull", AnswerEdgesTest::cellsOfEmptyAndFull);
        DUE.test("rooksTooFewOrTooMany", AnswerEdgesTest::rooksTooFewOrTooMany);
        DUE.test("rooksOfEmpty", AnswerEdgesTest::rooksOfEmpty);
        DUE.test("rooksOfFull", AnswerEdgesTest::rooksOfFull);
        DUE.test("hitsTooFewOrTooMany", AnswerEdgesTest::hitsTooFewOrTooMany);
        DUE.test("hitsOfEmpty", AnswerEdgesTest::hitsOfEmpty);
        DUE.test("hitsOfFull", AnswerEdgesTest::hitsOfFull);
        DUE.test("hitsOnTheBoardOrNot", AnswerEdgesTest::hitsOnTheBoardOrNot);
        DUE.test("throughWrongCell", AnswerEdgesTest::throughWrongCell);
        DUE.test("throughTooFewOrTooMany", AnswerEdgesTest::throughTooFewOrTooMany);
        DUE.test("throughCellNotOnTheBoard", AnswerEdgesTest::throughCellNotOnTheBoard);
        DUE.test("throughOfEmptyAndFull", AnswerEdgesTest::throughOfEmptyAndFull);
        DUE.test("sumTooFewOrTooMany", AnswerEdgesTest::sumTooFewOrTooMany);
        DUE.test("sumOfEmpty", AnswerEdgesTest::sumOfEmpty);
        DUE.test("sumOfFull", AnswerEdgesTest::sumOfFull);
        DUE.test("sumOfZeroAndNegativeWeights", AnswerEdgesTest::sumOfZeroAndNegativeWeights);
        DUE.test("signedSumOfEmpty", AnswerEdgesTest::signedSumOfEmpty);
        DUE.test("signedSumOfFull", AnswerEdgesTest::signedSumOfFull);
        DUE.test("signedSumWithAnEmptyLine", AnswerEdgesTest::signedSumWithAnEmptyLine);
        DUE.test("mostOfEmptyAndFull", AnswerEdgesTest::mostOfEmptyAndFull);
        DUE.test("mostOfOneLine", AnswerEdgesTest::mostOfOneLine);
        DUE.test("linesOfEmptyAndFull", AnswerEdgesTest::linesOfEmptyAndFull);
        DUE.test("linesOfOneRowOrColumn", AnswerEdgesTest::linesOfOneRowOrColumn);
        DUE.test("neededOfEmptyAndFull", AnswerEdgesTest::neededOfEmptyAndFull);
        DUE.test("neededOfAllCells", AnswerEdgesTest::neededOfAllCells);
        DUE.test("neededWithFewerThanAllRooks", AnswerEdgesTest::neededWithFewerThanAllRooks);
        DUE.test("columnRooksOutOfRange", AnswerEdgesTest::columnRooksOutOfRange);
        DUE.test("columnRowOutOfRange", AnswerEdgesTest::columnRowOutOfRange);
        DUE.test("columnBadArgumentBeforeNone", AnswerEdgesTest::columnBadArgumentBeforeNone);
        DUE.test("columnNoSuchPlacement", AnswerEdgesTest::columnNoSuchPlacement);
        DUE.test("columnFirstAndLastPlacement", AnswerEdgesTest::columnFirstAndLastPlacement);
        DUE.test("columnNoRookInTheRow", AnswerEdgesTest::columnNoRookInTheRow);
        DUE.test("columnOfEmpty", AnswerEdgesTest::columnOfEmpty);
        DUE.test("columnOfFull", AnswerEdgesTest::columnOfFull);
        DUE.end();
    }

    private static int factorial(int n) {
        int product = 1;
        for (int i = 2; i <= n; i++) {
            product *= i;
        }
        return product;
    }

    private static int choose(int n, int k) {
        return k < 0 || k > n ? 0 : factorial(n) / factorial(k) / factorial(n - k);
    }

    /** The placements of k rooks on a full board: k rows, k columns, and each way to join them. */
    private static int onFull(int n, int k) {
        return choose(n, k) * choose(n, k) * factorial(Math.max(k, 0));
    }

    private static int[] farAbove(int n) {
        return new int[] {n + 1, n + 2, 7, 8, 63, 64, 256 + n, MAX - 1, MAX};
    }

    /** 7: "How many cells are on the board.": none, one, all but one, all. */
    private static void cellsOfEmptyAndFull() {
        for (int n = 1; n <= 6; n++) {
            RookBoards x = new RookBoards(n);
            DUE.same("7, empty: n " + n, x.cells(), 0);
            x.set(7 * (n - 1), 1);
            DUE.same("7, one: n " + n, x.cells(), 1);
            x.complement();
            DUE.same("7, all but one: n " + n, x.cells(), n * n - 1);
            x.set(7 * (n - 1), 1);
            DUE.same("7, full: n " + n, x.cells(), n * n);
        }
    }

    /** 8: "BAD_ARG if k is not 0 to n"; 0 and n themselves are answered. */
    private static void rooksTooFewOrTooMany() {
        for (int n = 1; n <= 6; n++) {
            RookBoards x = Due.full(n);
            for (int k : FAR_BELOW) {
                DUE.same("8, too few: n " + n + ", rooks(" + k + ")", x.rooks(k), -1);
            }
            for (int k : farAbove(n)) {
                DUE.same("8, too many: n " + n + ", rooks(" + k + ")", x.rooks(k), -1);
            }
            DUE.same("8, fewest: n " + n, x.rooks(0), 1);
            DUE.same("8, all: n " + n, x.rooks(n), factorial(n));
        }
    }

    /** 8: on an empty board there is the placement of no rooks alone. */
    private static void rooksOfEmpty() {
        for (int n = 1; n <= 6; n++) {
            RookBoards x = new RookBoards(n);
            for (int k = 0; k <= n; k++) {
                DUE.same("8, empty: n " + n + ", rooks(" + k + ")", x.rooks(k), k == 0 ? 1 : 0);
            }
        }
    }

    /** 8: on a full board every placement counts. */
    private static void rooksOfFull() {
        for (int n = 1; n <= 6; n++) {
            RookBoards x = Due.full(n);
            for (int k = 0; k <= n; k++) {
                DUE.same("8, full: n " + n + ", rooks(" + k + ")", x.rooks(k), onFull(n, k));
            }
        }
    }

    /** 9: "BAD_ARG if k is not 0 to n"; 0 and n themselves are answered. */
    private static void hitsTooFewOrTooMany() {
        for (int n = 1; n <= 6; n++) {
            RookBoards x = Due.diagonal(n);
            for (int k : FAR_BELOW) {
                DUE.same("9, too few: n " + n + ", hits(" + k + ")", x.hits(k), -1);
            }
            for (int k : farAbove(n)) {
                DUE.same("9, too many: n " + n + ", hits(" + k + ")", x.hits(k), -1);
            }
            int[] noneStays = {0, 1, 2, 9, 44, 265};
            DUE.same("9, fewest: n " + n, x.hits(0), noneStays[n - 1]);
            DUE.same("9, all: n " + n, x.hits(n), 1);
        }
    }

    /** 9: with no cell on the board, each full placement has just 0 of them. */
    private static void hitsOfEmpty() {
        for (int n = 1; n <= 6; n++) {
            RookBoards x = new RookBoards(n);
            for (int k = 0; k <= n; k++) {
                DUE.same("9, empty: n " + n + ", hits(" + k + ")", x.hits(k), k == 0 ? factorial(n) : 0);
            }
        }
    }

    /** 9: with all cells on the board, each full placement has just n of them. */
    private static void hitsOfFull() {
        for (int n = 1; n <= 6; n++) {
            RookBoards x = Due.full(n);
            for (int k = 0; k <= n; k++) {
                DUE.same("9, full: n " + n + ", hits(" + k + ")", x.hits(k), k == n ? factorial(n) : 0);
            }
        }
    }

    /** 9: "(on the board or not) have just k cells": one cell is hit, or just missed. */
    private static void hitsOnTheBoardOrNot() {
        for (int n = 2; n <= 6; n++) {
            RookBoards x = new RookBoards(n);
            x.set(6 * (n - 1), 1);
            int hit = factorial(n - 1);
            DUE.same("9, one cell hit: n " + n, x.hits(1), hit);
            DUE.same("9, one cell missed: n " + n, x.hits(0), factorial(n) - hit);
            x.complement();
            DUE.same("9, all but one, all hit: n " + n, x.hits(n), factorial(n) - hit);
            DUE.same("9, all but one, one missed: n " + n, x.hits(n - 1), hit);
        }
    }

    /** 10, by Terms: "a cell that is not one of the n times n ones answers BAD_ARG". */
    private static void throughWrongCell() {
        for (int n = 1; n <= 6; n++) {
            RookBoards x = Due.full(n);
            for (int cell = -44; cell <= 80; cell++) {
                int want = Due.isCell(n, cell) ? 1 : -1;
                DUE.same("10, cell: n " + n + ", through(" + cell + ", 1)", x.through(cell, 1), want);
            }
            for (int cell : new int[] {MIN, MIN + 6, -256, 256, MAX - 1, MAX}) {
                DUE.same("10, cell: n " + n + ", through(" + cell + ", 1)", x.through(cell, 1), -1);
            }
        }
    }

    /** 10: "BAD_ARG if k is not 0 to n": also for a cell that is not on the board. */
    private static void throughTooFewOrTooMany() {
        for (int n = 1; n <= 6; n++) {
            RookBoards full = Due.full(n);
            RookBoards empty = new RookBoards(n);
            int last = 7 * (n - 1);
            for (int k : FAR_BELOW) {
                DUE.same("10, too few: n " + n + ", full, k " + k, full.through(last, k), -1);
                DUE.same("10, too few: n " + n + ", empty, k " + k, empty.through(last, k), -1);
            }
            for (int k : farAbove(n)) {
                DUE.same("10, too many: n " + n + ", full, k " + k, full.through(last, k), -1);
                DUE.same("10, too many: n " + n + ", empty, k " + k, empty.through(last, k), -1);
            }
            DUE.same("10, fewest: n " + n, full.through(last, 0), 0);
            DUE.same("10, all: n " + n, full.through(last, n), factorial(n - 1));
        }
    }

    /** 10: "are on the board and have the cell": no such placement has a cell beside the board. */
    private static void throughCellNotOnTheBoard() {
        for (int n = 1; n <= 6; n++) {
            RookBoards x = Due.full(n);
            x.set(0, 0);
            for (int k = 0; k <= n; k++) {
                DUE.same("10, not on the board: n " + n + ", k " + k, x.through(0, k), 0);
            }
        }
    }

    /** 10: on an empty board none, on a full one as many as the other rows and columns have. */
    private static void throughOfEmptyAndFull() {
        for (int n = 1; n <= 6; n++) {
            RookBoards empty = new RookBoards(n);
            RookBoards full = Due.full(n);
            for (int k = 0; k <= n; k++) {
                int want = k == 0 ? 0 : onFull(n - 1, k - 1);
                for (int cell : new int[] {0, n - 1, 6 * (n - 1), 7 * (n - 1)}) {
                    String call = "n " + n + ", through(" + cell + ", " + k + ")";
                    DUE.same("10, empty: " + call, empty.through(cell, k), 0);
                    DUE.same("10, full: " + call, full.through(cell, k), want);
                }
            }
        }
    }

    private static RookBoards fullOfWeight(int n, int w) {
        RookBoards x = Due.full(n);
        for (int cell = 0; cell < 36; cell++) {
            x.weight(cell, w);
        }
        return x;
    }

    /** 11: "BAD_ARG if k is not 0 to n"; 0 and n themselves are answered. */
    private static void sumTooFewOrTooMany() {
        for (int n = 1; n <= 6; n++) {
            RookBoards x = fullOfWeight(n, 3);
            for (int k : FAR_BELOW) {
                DUE.same("11, too few: n " + n + ", sum(" + k + ")", x.sum(k), -1);
            }
            for (int k : farAbove(n)) {
                DUE.same("11, too many: n " + n + ", sum(" + k + ")", x.sum(k), -1);
            }
            DUE.same("11, fewest: n " + n, x.sum(0), 1);
            DUE.same("11, all: n " + n, x.sum(n), factorial(n) * power(3, n));
        }
    }

    private static int power(int w, int k) {
        int product = 1;
        for (int i = 0; i < k; i++) {
            product *= w;
        }
        return product;
    }

    /** 11: on an empty board, 1 for no rooks and else 0, whatever the weights. */
    private static void sumOfEmpty() {
        for (int n = 1; n <= 6; n++) {
            RookBoards x = fullOfWeight(n, 5);
            x.complement();
            for (int k = 0; k <= n; k++) {
                DUE.same("11, empty: n " + n + ", sum(" + k + ")", x.sum(k), k == 0 ? 1 : 0);
            }
        }
    }

    /** 11: on a full board every placement has its worth in it; great weights wrap. */
    private static void sumOfFull() {
        for (int n = 1; n <= 6; n++) {
            for (int w : new int[] {1, 2, -3, 1000, 65536, MAX, MIN}) {
                RookBoards x = fullOfWeight(n, w);
                for (int k = 0; k <= n; k++) {
                    int want = onFull(n, k) * power(w, k);
                    DUE.same("11, full: n " + n + ", weights " + w + ", sum(" + k + ")", x.sum(k), want);
                }
            }
        }
    }

    /** 11: a weight of 0 or below is one as any other. */
    private static void sumOfZeroAndNegativeWeights() {
        for (int n = 1; n <= 6; n++) {
            RookBoards x = Due.diagonal(n);
            for (int r = 0; r < n; r++) {
                x.weight(7 * r, -1);
            }
            DUE.same("11, below 0: sum(n), n " + n, x.sum(n), n % 2 == 0 ? 1 : -1);
            DUE.same("11, below 0: sum(1), n " + n, x.sum(1), -n);
            x.weight(0, 0);
            DUE.same("11, a 0: sum(n), n " + n, x.sum(n), 0);
            DUE.same("11, a 0: sum(1), n " + n, x.sum(1), 1 - n);
        }
    }

    /** 12: with no full placement on the board the sum has no part. */
    private static void signedSumOfEmpty() {
        for (int n = 1; n <= 6; n++) {
            RookBoards x = fullOfWeight(n, 5);
            x.complement();
            DUE.same("12, empty: n " + n, x.signedSum(), 0);
        }
    }

    /** 12: a full board with weights all the same: as many of each sign, but for n = 1. */
    private static void signedSumOfFull() {
        for (int n = 1; n <= 6; n++) {
            for (int w : new int[] {1, 7, -1, MAX, MIN}) {
                int want = n == 1 ? w : 0;
                DUE.same("12, full: n " + n + ", weights " + w, fullOfWeight(n, w).signedSum(), want);
            }
            // Weights 2 on the diagonal and 1 beside it come to n + 1, a known determinant.
            RookBoards x = Due.full(n);
            for (int r = 0; r < n; r++) {
                x.weight(7 * r, 2);
            }
            DUE.same("12, full: 2 on the diagonal, n " + n, x.signedSum(), n + 1);
        }
    }

    /** 12: one empty row or column leaves no full placement. */
    private static void signedSumWithAnEmptyLine() {
        for (int n = 1; n <= 6; n++) {
            for (int line = 0; line < n; line++) {
                RookBoards x = Due.marked(n);
                RookBoards y = Due.marked(n);
                for (int c = 0; c < n; c++) {
                    x.set(6 * line + c, 0);
                    y.set(6 * c + line, 0);
                }
                DUE.same("12, empty row " + line + ", n " + n, x.signedSum(), 0);
                DUE.same("12, empty column " + line + ", n " + n, y.signedSum(), 0);
            }
        }
    }

    /** 13: "The greatest number of rooks of a placement on the board.": 0 and n are its ends. */
    private static void mostOfEmptyAndFull() {
        for (int n = 1; n <= 6; n++) {
            DUE.same("13, empty: n " + n, new RookBoards(n).most(), 0);
            DUE.same("13, full: n " + n, Due.full(n).most(), n);
            DUE.same("13, just n cells: n " + n, Due.diagonal(n).most(), n);
            RookBoards x = Due.diagonal(n);
            x.set(7 * (n - 1), 0);
            DUE.same("13, one cell less: n " + n, x.most(), n - 1);
            RookBoards one = new RookBoards(n);
            one.set(7 * (n - 1), 1);
            DUE.same("13, one cell: n " + n, one.most(), 1);
        }
    }

    private static RookBoards oneRow(int n, int row) {
        RookBoards x = new RookBoards(n);
        for (int c = 0; c < n; c++) {
            x.set(6 * row + c, 1);
        }
        return x;
    }

    /** 13: n cells in one row or column still bear one rook alone. */
    private static void mostOfOneLine() {
        for (int n = 1; n <= 6; n++) {
            for (int line = 0; line < n; line++) {
                RookBoards x = oneRow(n, line);
                DUE.same("13, one row: n " + n + ", row " + line, x.most(), 1);
                x.turn();
                DUE.same("13, one column: n " + n + ", column " + line, x.most(), 1);
            }
        }
    }

    /** 14: "The least number of rows and columns, together": 0 and n are its ends. */
    private static void linesOfEmptyAndFull() {
        for (int n = 1; n <= 6; n++) {
            DUE.same("14, empty: n " + n, new RookBoards(n).lines(), 0);
            DUE.same("14, full: n " + n, Due.full(n).lines(), n);
            DUE.same("14, just n cells: n " + n, Due.diagonal(n).lines(), n);
            RookBoards x = Due.diagonal(n);
            x.set(7 * (n - 1), 0);
            DUE.same("14, one cell less: n " + n, x.lines(), n - 1);
            RookBoards one = new RookBoards(n);
            one.set(7 * (n - 1), 1);
            DUE.same("14, one cell: n " + n, one.lines(), 1);
        }
    }

    /** 14: "rows and columns, together": one of either is enough for its own cells. */
    private static void linesOfOneRowOrColumn() {
        for (int n = 2; n <= 6; n++) {
            for (int line = 0; line < n; line++) {
                RookBoards row = oneRow(n, line);
                RookBoards column = new RookBoards(n);
                RookBoards both = oneRow(n, line);
                for (int c = 0; c < n; c++) {
                    column.set(6 * c + line, 1);
                    both.set(6 * c + line, 1);
                }
                DUE.same("14, row " + line + ": n " + n, row.lines(), 1);
                DUE.same("14, column " + line + ": n " + n, column.lines(), 1);
                DUE.same("14, row and column " + line + ": n " + n, both.lines(), 2);
            }
        }
    }

    /** 15: an empty board has no cell to need; a full one can do without each, but for n = 1. */
    private static void neededOfEmptyAndFull() {
        for (int n = 1; n <= 6; n++) {
            DUE.same("15, empty: n " + n, new RookBoards(n).needed(), 0);
            DUE.same("15, full: n " + n, Due.full(n).needed(), n == 1 ? 1 : 0);
        }
    }

    /** 15: "are in all placements of most() rooks": all cells are, when there is just one such. */
    private static void neededOfAllCells() {
        for (int n = 1; n <= 6; n++) {
            DUE.same("15, all cells: n " + n, Due.diagonal(n).needed(), n);
            RookBoards x = Due.diagonal(n);
            x.set(7 * (n - 1), 0);
            DUE.same("15, all cells, fewer than n: n " + n, x.needed(), n - 1);
            RookBoards steps = new RookBoards(n);
            for (int r = 0; r < n; r++) {
                for (int c = 0; c <= r; c++) {
                    steps.set(6 * r + c, 1);
                }
            }
            DUE.same("15, some of the cells: n " + n, steps.needed(), n);
        }
    }

    /** 15: "all placements of most() rooks": not of n, where there are none of n. */
    private static void neededWithFewerThanAllRooks() {
        for (int n = 2; n <= 6; n++) {
            DUE.same("15, one row: n " + n, oneRow(n, n - 1).needed(), 0);
            RookBoards x = oneRow(n, n - 1);
            x.complement();
            DUE.same("15, all rows but one: n " + n, x.needed(), 0);
            RookBoards cross = oneRow(n, 0);
            for (int r = 0; r < n; r++) {
                cross.set(6 * r, 1);
            }
            // Two by two, the corner (0, 0) is left out and the two others are the only two rooks.
            DUE.same("15, a row and a column: n " + n, cross.needed(), n == 2 ? 2 : 0);
        }
    }

    /** 16: "k not 0 to n ... answers BAD_ARG"; 0 and n themselves are answered. */
    private static void columnRooksOutOfRange() {
        for (int n = 1; n <= 6; n++) {
            RookBoards x = Due.full(n);
            for (int k : FAR_BELOW) {
                DUE.same("16, too few: n " + n + ", k " + k, x.column(k, 0, 0), -1);
            }
            for (int k : farAbove(n)) {
                DUE.same("16, too many: n " + n + ", k " + k, x.column(k, 0, 0), -1);
            }
            DUE.same("16, fewest: n " + n, x.column(0, 0, n - 1), n);
            DUE.same("16, all: n " + n, x.column(n, 0, n - 1), n - 1);
        }
    }

    /** 16: "r not 0 to n - 1 answers BAD_ARG": n is no row. */
    private static void columnRowOutOfRange() {
        for (int n = 1; n <= 6; n++) {
            RookBoards x = Due.diagonal(n);
            for (int r : FAR_BELOW) {
                DUE.same("16, row too small: n " + n + ", r " + r, x.column(n, 0, r), -1);
                DUE.same("16, row too small: n " + n + ", no rooks, r " + r, x.column(0, 0, r), -1);
            }
            for (int r = n; r <= 7; r++) {
                DUE.same("16, row too large: n " + n + ", r " + r, x.column(n, 0, r), -1);
                DUE.same("16, row too large: n " + n + ", no rooks, r " + r, x.column(0, 0, r), -1);
            }
            for (int r : farAbove(n)) {
                DUE.same("16, row too large: n " + n + ", r " + r, x.column(n, 0, r), -1);
            }
            for (int r = 0; r < n; r++) {
                DUE.same("16, row in range: n " + n + ", r " + r, x.column(n, 0, r), r);
            }
        }
    }

    /** 16: "Tested in this order": where both are so, BAD_ARG is the answer. */
    private static void columnBadArgumentBeforeNone() {
        for (int n = 1; n <= 6; n++) {
            RookBoards empty = new RookBoards(n);
            for (int i : new int[] {MIN, -1, 0, 1, 720, MAX}) {
                for (int bad : new int[] {MIN, -1, n + 1, MAX}) {
                    String name = "16, order of tests: n " + n + ", i " + i + ", ";
                    DUE.same(name + "k " + bad, empty.column(bad, i, 0), -1);
                    DUE.same(name + "r " + bad, empty.column(n, i, bad), -1);
                    DUE.same(name + "k and r " + bad, empty.column(bad, i, bad), -1);
                }
                DUE.same("16, order of tests: n " + n + ", r n", empty.column(n, i, n), -1);
                DUE.same("16, order of tests: n " + n + ", neither", empty.column(n, i, 0), -4);
            }
        }
    }

    /** 16: "there is no such placement answers NONE": before the first, and past the last one. */
    private static void columnNoSuchPlacement() {
        for (int n = 1; n <= 6; n++) {
            RookBoards x = Due.full(n);
            for (int k = 0; k <= n; k++) {
                int count = onFull(n, k);
                for (int i : new int[] {MIN, MIN + 1, -2, -1, count, count + 1, 1 << 16, MAX - 1, MAX}) {
                    String call = "n " + n + ", column(" + k + ", " + i + ", ";
                    DUE.same("16, no such: " + call + "0)", x.column(k, i, 0), -4);
                    DUE.same("16, no such: " + call + (n - 1) + ")", x.column(k, i, n - 1), -4);
                }
            }
        }
    }

    /** 16: "that has i such placements before it": 0 before the first, all but one before the last. */
    private static void columnFirstAndLastPlacement() {
        for (int n = 1; n <= 6; n++) {
            RookBoards x = Due.full(n);
            for (int k = 0; k <= n; k++) {
                int last = onFull(n, k) - 1;
                for (int r = 0; r < n; r++) {
                    // The last has no rook as long as it can, then the greatest columns first.
                    int lastColumn = r < n - k ? n : 2 * n - 1 - k - r;
                    String name = "n " + n + ", k " + k + ", row " + r;
                    DUE.same("16, first: " + name, x.column(k, 0, r), r < k ? r : n);
                    DUE.same("16, last: " + name, x.column(k, last, r), lastColumn);
                }
            }
        }
    }

    /** 16: "n if there is none in the row": n, not 6, and above and below the rook alike. */
    private static void columnNoRookInTheRow() {
        for (int n = 2; n <= 6; n++) {
            for (int row = 0; row < n; row++) {
                RookBoards x = new RookBoards(n);
                x.set(6 * row + n - 1, 1);
                for (int r = 0; r < n; r++) {
                    int want = r == row ? n - 1 : n;
                    DUE.same("16, none in the row: n " + n + ", rook in row " + row + ", r " + r,
                        x.column(1, 0, r), want);
                }
            }
        }
    }

    /** 16: an empty board has the placement of no rooks, with none in any row, and no other. */
    private static void columnOfEmpty() {
        for (int n = 1; n <= 6; n++) {
            RookBoards x = new RookBoards(n);
            for (int r = 0; r < n; r++) {
                DUE.same("16, empty: n " + n + ", no rooks, r " + r, x.column(0, 0, r), n);
                DUE.same("16, empty: n " + n + ", no second, r " + r, x.column(0, 1, r), -4);
                for (int k = 1; k <= n; k++) {
                    DUE.same("16, empty: n " + n + ", k " + k + ", r " + r, x.column(k, 0, r), -4);
                }
            }
        }
    }

    /** 16: a full board of three rows, two rooks: the whole order by hand. */
    private static void columnOfFull() {
        String[] order = {"013", "023", "031", "032", "103", "123", "130", "132", "203", "213",
            "230", "231", "301", "302", "310", "312", "320", "321"};
        RookBoards x = Due.full(3);
        for (int i = 0; i < order.length; i++) {
            for (int r = 0; r < 3; r++) {
                String call = "16, full: column(2, " + i + ", " + r + ")";
                DUE.same(call, x.column(2, i, r), order[i].charAt(r) - '0');
            }
        }
        DUE.same("16, full: past the last", x.column(2, order.length, 0), -4);
    }
}
