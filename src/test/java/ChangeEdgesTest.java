/** The boundary cases that promises 1 to 6 name, each sentence in a test of its own. */
public final class ChangeEdgesTest {
    private static final int MIN = Integer.MIN_VALUE;
    private static final int MAX = Integer.MAX_VALUE;
    private static final Due DUE = new Due();

    public static void main(String[] args) {
        DUE.test("sizeTooSmall", ChangeEdgesTest::sizeTooSmall);
        DUE.test("sizeTooLarge", ChangeEdgesTest::sizeTooLarge);
        DUE.test("sizeInRangeStays", ChangeEdgesTest::sizeInRangeStays);
        DUE.test("noCellOnTheBoard", ChangeEdgesTest::noCellOnTheBoard);
        DUE.test("allWeightsAreOne", ChangeEdgesTest::allWeightsAreOne);
        DUE.test("setOnNotZero", ChangeEdgesTest::setOnNotZero);
        DUE.test("setGoesFromIt", ChangeEdgesTest::setGoesFromIt);
        DUE.test("setAnswersWhatWasBefore", ChangeEdgesTest::setAnswersWhatWasBefore);
        DUE.test("setFirstAndLastCell", ChangeEdgesTest::setFirstAndLastCell);
        DUE.test("weightTakesEveryInt", ChangeEdgesTest::weightTakesEveryInt);
        DUE.test("weightBesideTheBoard", ChangeEdgesTest::weightBesideTheBoard);
        DUE.test("complementOfEmpty", ChangeEdgesTest::complementOfEmpty);
        DUE.test("complementOfFull", ChangeEdgesTest::complementOfFull);
        DUE.test("complementOfAllButOne", ChangeEdgesTest::complementOfAllButOne);
        DUE.test("complementLeavesWeights", ChangeEdgesTest::complementLeavesWeights);
        DUE.test("exchangeRowTooSmall", ChangeEdgesTest::exchangeRowTooSmall);
        DUE.test("exchangeRowTooLarge", ChangeEdgesTest::exchangeRowTooLarge);
        DUE.test("exchangeFirstAndLastRow", ChangeEdgesTest::exchangeFirstAndLastRow);
        DUE.test("exchangeWithItself", ChangeEdgesTest::exchangeWithItself);
        DUE.test("exchangeOfEmptyAndFullRow", ChangeEdgesTest::exchangeOfEmptyAndFullRow);
        DUE.test("turnSmallest", ChangeEdgesTest::turnSmallest);
        DUE.test("turnCorners", ChangeEdgesTest::turnCorners);
        DUE.test("turnLeavesTheDiagonal", ChangeEdgesTest::turnLeavesTheDiagonal);
        DUE.test("turnOfEmptyAndFull", ChangeEdgesTest::turnOfEmptyAndFull);
        DUE.test("turnTwice", ChangeEdgesTest::turnTwice);
        DUE.end();
    }

    /** The size is seen by the greatest k and the last cell that are not refused. */
    private static void hasSize(String name, RookBoards x, int n) {
        DUE.same(name + ", rooks(n)", x.rooks(n), 0);
        DUE.same(name + ", rooks(n + 1)", x.rooks(n + 1), -1);
        DUE.same(name + ", exchange(n - 1, 0)", x.exchange(n - 1, 0), 0);
        DUE.same(name + ", exchange(n, 0)", x.exchange(n, 0), -1);
        DUE.same(name + ", the last cell", x.set(7 * (n - 1), 0), 0);
        DUE.same(name + ", past the last cell", x.set(7 * n, 0), -1);
        DUE.same(name + ", complement()", x.complement(), n * n);
    }

    /** 1: "n is size, clamped into 1 to 6": too small. */
    private static void sizeTooSmall() {
        for (int size : new int[] {0, -1, -2, -6, MIN + 1, MIN}) {
            hasSize("1, too small: size " + size, new RookBoards(size), 1);
        }
    }

    /** 1: "n is size, clamped into 1 to 6": too large. */
    private static void sizeTooLarge() {
        for (int size : new int[] {7, 8, 12, 36, 256, 65537, MAX - 1, MAX}) {
            hasSize("1, too large: size " + size, new RookBoards(size), 6);
        }
    }

    /** 1: "n is size, clamped into 1 to 6": 1 and 6 themselves and what is between them stay. */
    private static void sizeInRangeStays() {
        for (int size = 1; size <= 6; size++) {
            hasSize("1, in range: size " + size, new RookBoards(size), size);
        }
    }

    /** 1: "no cell is on the board" */
    private static void noCellOnTheBoard() {
        for (int n = 1; n <= 6; n++) {
            RookBoards x = new RookBoards(n);
            DUE.same("1, no cell: cells(), n " + n, x.cells(), 0);
            for (int r = 0; r < n; r++) {
                for (int c = 0; c < n; c++) {
                    DUE.same("1, no cell: n " + n + ", cell " + (6 * r + c), x.set(6 * r + c, 0), 0);
                }
            }
        }
    }

    /** 1: "all weights are 1" */
    private static void allWeightsAreOne() {
        for (int size : new int[] {0, 1, 2, 3, 4, 5, 6, 7}) {
            RookBoards x = new RookBoards(size);
            int n = Math.max(1, Math.min(6, size));
            for (int r = 0; r < n; r++) {
                for (int c = 0; c < n; c++) {
                    x.set(6 * r + c, 1);
                    DUE.same("1, weights: size " + size + ", cell " + (6 * r + c), x.sum(1), 1);
                    x.set(6 * r + c, 0);
                }
            }
        }
    }

    /** 2: "The cell comes to the board (on not 0)": any int but 0, whatever its low bits. */
    private static void setOnNotZero() {
        for (int on : new int[] {1, 2, -1, -2, 256, 65536, 1 << 30, MAX, MIN, MIN + 1}) {
            RookBoards x = new RookBoards(2);
            DUE.same("2, on not 0: set(7, " + on + ")", x.set(7, on), 0);
            DUE.same("2, on not 0: cells() after " + on, x.cells(), 1);
            DUE.same("2, on not 0: set(7, " + on + ") again", x.set(7, on), 1);
            DUE.same("2, on not 0: still there after " + on, x.cells(), 1);
        }
    }

    /** 2: "or goes from it": 0 alone. */
    private static void setGoesFromIt() {
        RookBoards x = Due.full(3);
        DUE.same("2, goes: set(8, 0)", x.set(8, 0), 1);
        DUE.same("2, goes: cells()", x.cells(), 8);
        DUE.same("2, goes: set(8, 0) again", x.set(8, 0), 0);
        DUE.same("2, goes: cells() again", x.cells(), 8);
    }

    /** 2: "Answers 1 if it was on it before, else 0.": before, not after, and 1 whatever on was. */
    private static void setAnswersWhatWasBefore() {
        RookBoards x = new RookBoards(6);
        int[] ons = {0, 5, -7, 0, 0, MIN, MAX, 0};
        int[] answers = {0, 0, 1, 1, 0, 0, 1, 1};
        for (int call = 0; call < ons.length; call++) {
            DUE.same("2, before: call " + call, x.set(35, ons[call]), answers[call]);
        }
    }

    /** 2: the corners of the board are cells too, and only they come to it. */
    private static void setFirstAndLastCell() {
        for (int n = 1; n <= 6; n++) {
            int[] corners = {0, n - 1, 6 * (n - 1), 7 * (n - 1)};
            for (int cell : corners) {
                RookBoards x = new RookBoards(n);
                DUE.same("2, corner: n " + n + ", cell " + cell, x.set(cell, 1), 0);
                DUE.same("2, corner: n " + n + ", cells()", x.cells(), 1);
                DUE.same("2, corner: n " + n + ", through", x.through(cell, 1), 1);
            }
        }
    }

    /** 3: "The cell gets weight w. Answers 0.": w has no range, and is not what is answered. */
    private static void weightTakesEveryInt() {
        for (int w : new int[] {MIN, MIN + 1, -65536, -4, -1, 0, 1, 2, 128, 32768, 65536, MAX - 1, MAX}) {
            for (int n = 1; n <= 6; n++) {
                RookBoards x = new RookBoards(n);
                int last = 7 * (n - 1);
                x.set(last, 1);
                DUE.same("3, any w: weight(" + last + ", " + w + ")", x.weight(last, w), 0);
                DUE.same("3, any w: the weight " + w + ", n " + n, x.sum(1), w);
                DUE.same("3, any w: a second time", x.weight(last, w ^ 1), 0);
                DUE.same("3, any w: the weight " + (w ^ 1) + ", n " + n, x.sum(1), w ^ 1);
            }
        }
    }

    /** 3: a cell that is not on the board gets its weight as well, and stays away from it. */
    private static void weightBesideTheBoard() {
        RookBoards x = new RookBoards(3);
        DUE.same("3, beside the board: weight(8, 9)", x.weight(8, 9), 0);
        DUE.same("3, beside the board: cells()", x.cells(), 0);
        DUE.same("3, beside the board: sum(1)", x.sum(1), 0);
        x.set(8, 1);
        DUE.same("3, beside the board: sum(1) with the cell", x.sum(1), 9);
        x.set(8, 0);
        x.set(8, 1);
        DUE.same("3, beside the board: away and back", x.sum(1), 9);
    }

    /** 4: "The cells on the board become those that were not.": none were. */
    private static void complementOfEmpty() {
        for (int n = 1; n <= 6; n++) {
            RookBoards x = new RookBoards(n);
            DUE.same("4, empty: complement(), n " + n, x.complement(), n * n);
            DUE.same("4, empty: cells() after, n " + n, x.cells(), n * n);
            for (int r = 0; r < n; r++) {
                for (int c = 0; c < n; c++) {
                    DUE.same("4, empty: n " + n + ", cell " + (6 * r + c), x.set(6 * r + c, 1), 1);
                }
            }
        }
    }

    /** 4: "The cells on the board become those that were not.": all were. */
    private static void complementOfFull() {
        for (int n = 1; n <= 6; n++) {
            RookBoards x = Due.full(n);
            DUE.same("4, full: complement(), n " + n, x.complement(), 0);
            DUE.same("4, full: cells() after, n " + n, x.cells(), 0);
            DUE.same("4, full: and back, n " + n, x.complement(), n * n);
        }
    }

    /** 4: "Answers how many are on it then.": then, not before. */
    private static void complementOfAllButOne() {
        for (int n = 2; n <= 6; n++) {
            RookBoards x = new RookBoards(n);
            x.set(6, 1);
            DUE.same("4, then: one before, n " + n, x.complement(), n * n - 1);
            DUE.same("4, then: one missing, n " + n, x.complement(), 1);
            DUE.same("4, then: the same one, n " + n, x.set(6, 1), 1);
        }
    }

    /** 4: the weights are no part of it. */
    private static void complementLeavesWeights() {
        for (int n = 1; n <= 6; n++) {
            RookBoards x = Due.marked(n);
            x.complement();
            x.complement();
            DUE.isStillMarked("4, weights: complement() twice, n " + n, x, n);
            RookBoards y = new RookBoards(n);
            y.weight(0, 12);
            y.complement();
            DUE.same("4, weights: once, n " + n, y.sum(1), 12 + n * n - 1);
        }
    }

    /** 5: "BAD_ARG if i or j is not 0 to n - 1": below 0. */
    private static void exchangeRowTooSmall() {
        exchangeIsRefused("5, too small: ", new int[] {-1, -2, -6, MIN + 1, MIN});
    }

    /** 5: "BAD_ARG if i or j is not 0 to n - 1": n and above; rows to 5 are no rows of a small board. */
    private static void exchangeRowTooLarge() {
        for (int n = 1; n <= 6; n++) {
            RookBoards x = Due.marked(n);
            for (int row = n; row <= 7; row++) {
                DUE.same("5, too large: n " + n + ", exchange(0, " + row + ")", x.exchange(0, row), -1);
                DUE.same("5, too large: n " + n + ", exchange(" + row + ", 0)", x.exchange(row, 0), -1);
                DUE.same("5, too large: n " + n + ", both " + row, x.exchange(row, row), -1);
            }
            DUE.isStillMarked("5, too large: changes nothing, n " + n, x, n);
        }
        exchangeIsRefused("5, too large: ", new int[] {6, 7, 256, MAX - 1, MAX});
    }

    private static void exchangeIsRefused(String name, int[] wrong) {
        for (int n = 1; n <= 6; n++) {
            RookBoards x = Due.marked(n);
            for (int bad : wrong) {
                for (int good : new int[] {0, n - 1}) {
                    DUE.same(name + "n " + n + ", i " + bad, x.exchange(bad, good), -1);
                    DUE.same(name + "n " + n + ", j " + bad, x.exchange(good, bad), -1);
                }
                DUE.same(name + "n " + n + ", both " + bad, x.exchange(bad, bad), -1);
            }
            DUE.isStillMarked(name + "changes nothing, n " + n, x, n);
        }
    }

    /** 5: "Rows i and j exchange cells on the board and weights": 0 and n - 1, either way round. */
    private static void exchangeFirstAndLastRow() {
        for (int n = 2; n <= 6; n++) {
            for (int way = 0; way < 2; way++) {
                int i = way == 0 ? 0 : n - 1;
                RookBoards x = Due.marked(n);
                DUE.same("5, first and last: n " + n + ", i " + i, x.exchange(i, n - 1 - i), 0);
                for (int c = 0; c < n; c++) {
                    moved("5, first and last: n " + n + ", i " + i, x, c, 6 * (n - 1) + c);
                    moved("5, first and last: n " + n + ", i " + i, x, 6 * (n - 1) + c, c);
                }
                DUE.same("5, first and last: back", x.exchange(n - 1 - i, i), 0);
            }
            RookBoards y = Due.marked(n);
            y.exchange(0, n - 1);
            y.exchange(0, n - 1);
            DUE.isStillMarked("5, first and last: there and back, n " + n, y, n);
        }
    }

    /** Whether the cell now is what another cell of a marked board was; leaves it so. */
    private static void moved(String name, RookBoards x, int cell, int from) {
        int before = x.set(cell, 0);
        DUE.same(name + ", on the board, cell " + cell, before, Due.isMarkedOn(from) ? 1 : 0);
        int without = x.sum(1);
        x.set(cell, 1);
        DUE.same(name + ", weight, cell " + cell, x.sum(1) - without, Due.markedWeight(from));
        x.set(cell, before);
    }

    /** 5: "Otherwise 0.": a row and itself are no wrong rows, and nothing moves. */
    private static void exchangeWithItself() {
        for (int n = 1; n <= 6; n++) {
            RookBoards x = Due.marked(n);
            for (int r = 0; r < n; r++) {
                DUE.same("5, itself: n " + n + ", row " + r, x.exchange(r, r), 0);
            }
            DUE.isStillMarked("5, itself: n " + n, x, n);
        }
    }

    /** 5: an empty row takes the full one's place, whichever of them is named first. */
    private static void exchangeOfEmptyAndFullRow() {
        for (int n = 2; n <= 6; n++) {
            for (int way = 0; way < 2; way++) {
                RookBoards x = new RookBoards(n);
                for (int c = 0; c < n; c++) {
                    x.set(c, 1);
                }
                String name = "5, empty and full: n " + n + ", exchange(" + way + ", " + (1 - way) + ")";
                DUE.same(name, x.exchange(way, 1 - way), 0);
                DUE.same(name + ", cells()", x.cells(), n);
                for (int c = 0; c < n; c++) {
                    DUE.same(name + ", row 0", x.set(c, 0), 0);
                    DUE.same(name + ", row 1", x.set(6 + c, 1), 1);
                }
            }
        }
    }

    /** 6: "for all r and c": one cell alone. */
    private static void turnSmallest() {
        RookBoards x = new RookBoards(1);
        x.weight(0, -3);
        DUE.same("6, smallest: empty", x.turn(), 0);
        DUE.same("6, smallest: set", x.set(0, 1), 0);
        DUE.same("6, smallest: full", x.turn(), 0);
        DUE.same("6, smallest: cells()", x.cells(), 1);
        DUE.same("6, smallest: weight", x.sum(1), -3);
    }

    /** 6: "Cell (r, c) gets what cell (c, r) had, for all r and c, board and weight." */
    private static void turnCorners() {
        for (int n = 2; n <= 6; n++) {
            RookBoards x = Due.marked(n);
            DUE.same("6, corners: turn(), n " + n, x.turn(), 0);
            for (int c = 0; c < n; c++) {
                moved("6, corners: row 0, n " + n, x, c, 6 * c);
                moved("6, corners: column 0, n " + n, x, 6 * c, c);
                moved("6, corners: last row, n " + n, x, 6 * (n - 1) + c, 6 * c + n - 1);
                moved("6, corners: last column, n " + n, x, 6 * c + n - 1, 6 * (n - 1) + c);
            }
        }
    }

    /** 6: where r is c, the cell gets what it had. */
    private static void turnLeavesTheDiagonal() {
        for (int n = 1; n <= 6; n++) {
            RookBoards x = Due.marked(n);
            x.turn();
            for (int r = 0; r < n; r++) {
                moved("6, diagonal: n " + n, x, 7 * r, 7 * r);
            }
        }
    }

    /** 6: an empty board stays empty, a full one full. */
    private static void turnOfEmptyAndFull() {
        for (int n = 1; n <= 6; n++) {
            RookBoards empty = new RookBoards(n);
            DUE.same("6, empty: turn(), n " + n, empty.turn(), 0);
            DUE.same("6, empty: cells(), n " + n, empty.cells(), 0);
            RookBoards full = Due.full(n);
            DUE.same("6, full: turn(), n " + n, full.turn(), 0);
            DUE.same("6, full: cells(), n " + n, full.cells(), n * n);
        }
    }

    /** 6: what went to (c, r) comes back to (r, c). */
    private static void turnTwice() {
        for (int n = 1; n <= 6; n++) {
            RookBoards x = Due.marked(n);
            DUE.same("6, twice: first, n " + n, x.turn(), 0);
            DUE.same("6, twice: second, n " + n, x.turn(), 0);
            DUE.isStillMarked("6, twice: n " + n, x, n);
        }
    }
}
