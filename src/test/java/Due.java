/** Counts the answers that are not as due, and prints each of them. */
final class Due {
    private int wrong = 0;

    void same(String call, long got, long want) {
        if (got != want) {
            wrong++;
            System.out.println(call + " answered " + got + ", due is " + want);
        }
    }

    /** Ends the program with exit code 1 if an answer was wrong. */
    void end() {
        if (wrong != 0) {
            System.out.println(wrong + " answers are not as due");
            System.exit(1);
        }
    }

    /** A board from one text for each row; '#' is a cell on it. The number of rows is the size. */
    static RookBoards board(String... rows) {
        RookBoards x = new RookBoards(rows.length);
        for (int r = 0; r < rows.length; r++) {
            for (int c = 0; c < rows.length; c++) {
                if (rows[r].charAt(c) == '#') {
                    x.set(6 * r + c, 1);
                }
            }
        }
        return x;
    }

    /** Whether each cell is on the board, read by set alone and put back as it was. */
    void isBoard(String what, RookBoards x, String... rows) {
        for (int r = 0; r < rows.length; r++) {
            for (int c = 0; c < rows.length; c++) {
                int cell = 6 * r + c;
                int on = x.set(cell, 1);
                x.set(cell, on);
                same(what + ": on the board, cell " + cell, on, rows[r].charAt(c) == '#' ? 1 : 0);
            }
        }
    }

    /** The weight of a cell, read as the sum for one rook when only this cell is on the board. */
    static int weightOf(RookBoards x, int n, int cell) {
        int[] before = new int[36];
        for (int r = 0; r < n; r++) {
            for (int c = 0; c < n; c++) {
                before[6 * r + c] = x.set(6 * r + c, 6 * r + c == cell ? 1 : 0);
            }
        }
        int w = x.sum(1);
        for (int r = 0; r < n; r++) {
            for (int c = 0; c < n; c++) {
                x.set(6 * r + c, before[6 * r + c]);
            }
        }
        return w;
    }
}
