/**
 * Rooks on a board of certain cells, no two of them in one row or column.
 *
 * A set of columns is held as an int, one bit for each column (a "mask"). The counts and sums go
 * row by row and keep one number for each mask: what the placements that use just these columns
 * come to.
 */
public final class RookBoards {
    public static final int BAD_ARG = -1;
    public static final int NONE = -4;

    private static final int SIDE = 6;
    private static final int CELLS = 36;
    private static final int MASKS = 64;
    private static final int HIT_COUNTS = 7;
    private static final int HIT_SLOTS = 448;

    private final int n;
    private final boolean[] onBoard = new boolean[CELLS];
    private final int[] weights = new int[CELLS];

    // Scratch: each query fills these anew before it reads them, so they are no part of the state.
    private final int[] byMask = new int[MASKS];
    private final int[] hitsByMask = new int[HIT_SLOTS];

    public RookBoards(int size) {
        n = size < 1 ? 1 : (size > SIDE ? SIDE : size);
        for (int cell = 0; cell < CELLS; cell++) {
            weights[cell] = 1;
        }
    }

    public int set(int cell, int on) {
        if (!isCell(cell)) {
            return BAD_ARG;
        }
        int before = onBoard[cell] ? 1 : 0;
        onBoard[cell] = on != 0;
        return before;
    }

    public int weight(int cell, int w) {
        if (!isCell(cell)) {
            return BAD_ARG;
        }
        weights[cell] = w;
        return 0;
    }

    public int complement() {
        for (int row = 0; row < n; row++) {
            for (int col = 0; col < n; col++) {
                int cell = SIDE * row + col;
                onBoard[cell] = !onBoard[cell];
            }
        }
        return countCells();
    }

    public int exchange(int i, int j) {
        if (!isLine(i) || !isLine(j)) {
            return BAD_ARG;
        }
        for (int col = 0; col < n; col++) {
            swapCells(SIDE * i + col, SIDE * j + col);
        }
        return 0;
    }

    public int turn() {
        for (int row = 0; row < n; row++) {
            for (int col = row + 1; col < n; col++) {
                swapCells(SIDE * row + col, SIDE * col + row);
            }
        }
        return 0;
    }

    public int cells() {
        return countCells();
    }

    public int rooks(int k) {
        if (!isRookCount(k)) {
            return BAD_ARG;
        }
        return countCompletions(0, 0, k);
    }

    public int hits(int k) {
        if (!isRookCount(k)) {
            return BAD_ARG;
        }
        fillHits();
        int allColumns = (1 << n) - 1;
        return hitsByMask[HIT_COUNTS * allColumns + k];
    }

    public int through(int cell, int k) {
        if (!isCell(cell) || !isRookCount(k)) {
            return BAD_ARG;
        }
        if (!onBoard[cell]) {
            return 0;
        }
        return countWithCell(cell, k);
    }

    public int sum(int k) {
        if (!isRookCount(k)) {
            return BAD_ARG;
        }
        startWith(0);
        for (int row = 0; row < n; row++) {
            addRow(row, true);
        }
        return totalOf(k);
    }

    public int signedSum() {
        startWith(0);
        int allColumns = (1 << n) - 1;
        for (int mask = 1; mask <= allColumns; mask++) {
            byMask[mask] = signedSumOn(mask);
        }
        return byMask[allColumns];
    }

    public int most() {
        return greatestCount();
    }

    public int lines() {
        int least = n;
        for (int rows = 0; rows < 1 << n; rows++) {
            int columns = columnsOutside(rows);
            int used = bitCount(rows) + bitCount(columns);
            if (used < least) {
                least = used;
            }
        }
        return least;
    }

    public int needed() {
        int k = greatestCount();
        int all = countCompletions(0, 0, k);
        int found = 0;
        for (int row = 0; row < n; row++) {
            for (int col = 0; col < n; col++) {
                int cell = SIDE * row + col;
                if (onBoard[cell] && countWithCell(cell, k) == all) {
                    found++;
                }
            }
        }
        return found;
    }

    public int column(int k, int i, int r) {
        if (!isRookCount(k) || !isLine(r)) {
            return BAD_ARG;
        }
        if (i < 0 || i >= countCompletions(0, 0, k)) {
            return NONE;
        }
        return columnInPlacement(k, i, r);
    }

    private boolean isLine(int index) {
        return index >= 0 && index < n;
    }

    private boolean isCell(int cell) {
        return cell >= 0 && cell / SIDE < n && cell % SIDE < n;
    }

    private boolean isRookCount(int k) {
        return k >= 0 && k <= n;
    }

    private static int bitCount(int mask) {
        int count = 0;
        for (int col = 0; col < SIDE; col++) {
            count += (mask >> col) & 1;
        }
        return count;
    }

    private int countCells() {
        int count = 0;
        for (int row = 0; row < n; row++) {
            for (int col = 0; col < n; col++) {
                if (onBoard[SIDE * row + col]) {
                    count++;
                }
            }
        }
        return count;
    }

    private void swapCells(int a, int b) {
        boolean on = onBoard[a];
        onBoard[a] = onBoard[b];
        onBoard[b] = on;
        int w = weights[a];
        weights[a] = weights[b];
        weights[b] = w;
    }

    /** Makes the one placement so far the one that has used these columns. */
    private void startWith(int usedColumns) {
        for (int mask = 0; mask < MASKS; mask++) {
            byMask[mask] = 0;
        }
        byMask[usedColumns] = 1;
    }

    /** Lets each placement so far go on with no rook in the row, or with one on the board. */
    private void addRow(int row, boolean weighted) {
        // Downwards, so that the lesser masks read here are still without this row.
        for (int mask = (1 << n) - 1; mask > 0; mask--) {
            for (int col = 0; col < n; col++) {
                int cell = SIDE * row + col;
                int bit = 1 << col;
                if ((mask & bit) != 0 && onBoard[cell]) {
                    int factor = weighted ? weights[cell] : 1;
                    byMask[mask] += byMask[mask - bit] * factor;
                }
            }
        }
    }

    private int totalOf(int k) {
        int total = 0;
        for (int mask = 0; mask < 1 << n; mask++) {
            if (bitCount(mask) == k) {
                total += byMask[mask];
            }
        }
        return total;
    }

    /** How many ways the rows from firstRow on bring the used columns to k rooks in all. */
    private int countCompletions(int firstRow, int usedColumns, int k) {
        startWith(usedColumns);
        for (int row = firstRow; row < n; row++) {
            addRow(row, false);
        }
        return totalOf(k);
    }

    /** For a cell on the board: its rook is set first, and its row is then left out. */
    private int countWithCell(int cell, int k) {
        startWith(1 << (cell % SIDE));
        for (int row = 0; row < n; row++) {
            if (row != cell / SIDE) {
                addRow(row, false);
            }
        }
        return totalOf(k);
    }

    private int greatestCount() {
        int greatest = 0;
        for (int k = 1; k <= n; k++) {
            if (countCompletions(0, 0, k) > 0) {
                greatest = k;
            }
        }
        return greatest;
    }

    private void fillHits() {
        for (int slot = 0; slot < HIT_SLOTS; slot++) {
            hitsByMask[slot] = 0;
        }
        hitsByMask[0] = 1;
        for (int mask = 1; mask < 1 << n; mask++) {
            // Every row has a rook here, so the columns used tell the row of the last one.
            int row = bitCount(mask) - 1;
            for (int col = 0; col < n; col++) {
                int bit = 1 << col;
                if ((mask & bit) != 0) {
                    int hit = onBoard[SIDE * row + col] ? 1 : 0;
                    addHits(mask, mask - bit, hit);
                }
            }
        }
    }

    private void addHits(int mask, int fromMask, int hit) {
        for (int count = hit; count <= n; count++) {
            hitsByMask[HIT_COUNTS * mask + count] += hitsByMask[HIT_COUNTS * fromMask + count - hit];
        }
    }

    /** The signed sum for the first rows, as many as the mask has columns, on just these columns. */
    private int signedSumOn(int mask) {
        int row = bitCount(mask) - 1;
        int total = 0;
        for (int col = 0; col < n; col++) {
            int cell = SIDE * row + col;
            int bit = 1 << col;
            if ((mask & bit) != 0 && onBoard[cell]) {
                int term = weights[cell] * byMask[mask - bit];
                // Earlier rows with a greater column are the pairs that this rook brings.
                int pairs = bitCount(mask >> (col + 1));
                total += pairs % 2 == 0 ? term : -term;
            }
        }
        return total;
    }

    /** The columns of the cells on the board that are in none of these rows. */
    private int columnsOutside(int rows) {
        int columns = 0;
        for (int row = 0; row < n; row++) {
            for (int col = 0; col < n; col++) {
                if ((rows & (1 << row)) == 0 && onBoard[SIDE * row + col]) {
                    columns |= 1 << col;
                }
            }
        }
        return columns;
    }

    /** Goes down the rows; in each it passes over the choices whose placements all come before. */
    private int columnInPlacement(int k, int i, int r) {
        int stillBefore = i;
        int used = 0;
        int chosen = n;
        for (int row = 0; row <= r; row++) {
            int usedNext = used;
            boolean found = false;
            // Column n stands for no rook, which comes last in the order.
            for (int col = 0; col <= n && !found; col++) {
                if (mayChoose(row, col, used)) {
                    usedNext = col < n ? used | (1 << col) : used;
                    int count = countCompletions(row + 1, usedNext, k);
                    if (stillBefore < count) {
                        found = true;
                        chosen = col;
                    } else {
                        stillBefore -= count;
                    }
                }
            }
            used = usedNext;
        }
        return chosen;
    }

    private boolean mayChoose(int row, int col, int used) {
        return col == n || ((used & (1 << col)) == 0 && onBoard[SIDE * row + col]);
    }
}
