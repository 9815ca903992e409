/** Counts the answers that are not as due, and prints each of them. */
final class Due {
    private int wrong = 0;

    void same(String call, long got, long want) {
        if (got != want) {
            wrong++;
            System.out.println(call + " answered " + got + ", due is " + want);
        }
    }

    /** One test of its own: what it throws is a wrong answer too, and the tests after it still run. */
    void test(String name, Runnable body) {
        try {
            body.run();
        } catch (Throwable thrown) {
            wrong++;
            System.out.println(name + " threw " + thrown);
        }
    }

    /** Ends the program with exit code 1 if an answer was wrong. */
    void end() {
        if (wrong != 0) {
            System.out.println(wrong + " answers are not as due");
            System.exit(1);
        }
    }

    /** A board from one text for each row; '#' is a cell on it. The number of rows is the size. */
    static RookBoards board(String... rows) {
        RookBoards x = new RookBoards(rows.length);
        for (int r = 0; r < rows.length; r++) {
            for (int c = 0; c < rows.length; c++) {
                if (rows[r].charAt(c) == '#') {
                    x.set(6 * r + c, 1);
                }
            }
        }
        return x;
    }

    /** Whether each cell is on the board, read by set alone and put back as it was. */
    void isBoard(String what, RookBoards x, String... rows) {
        for (int r = 0; r < rows.length; r++) {
            for (int c = 0; c < rows.length; c++) {
                int cell = 6 * r + c;
                int on = x.set(cell, 1);
                x.set(cell, on);
                same(what + ": on the board, cell " + cell, on, rows[r].charAt(c) == '#' ? 1 : 0);
            }
        }
    }

    /** The weight of a cell, read as the sum for one rook when only this cell is on the board. */
    static int weightOf(RookBoards x, int n, int cell) {
        int[] before = new int[36];
        for (int r = 0; r < n; r++) {
            for (int c = 0; c < n; c++) {
                before[6 * r + c] = x.set(6 * r + c, 6 * r + c == cell ? 1 : 0);
            }
        }
        int w = x.sum(1);
        for (int r = 0; r < n; r++) {
            for (int c = 0; c < n; c++) {
                x.set(6 * r + c, before[6 * r + c]);
            }
        }
        return w;
    }

    static RookBoards full(int n) {
        RookBoards x = new RookBoards(n);
        x.complement();
        return x;
    }

    /** The cells whose row is their column. */
    static RookBoards diagonal(int n) {
        RookBoards x = new RookBoards(n);
        for (int r = 0; r < n; r++) {
            x.set(7 * r, 1);
        }
        return x;
    }

    /** Whether the cell is one of the n times n ones. */
    static boolean isCell(int n, int cell) {
        return cell >= 0 && cell < 36 && cell / 6 < n && cell % 6 < n;
    }

    static boolean isMarkedOn(int cell) {
        return (cell * cell + cell / 6) % 3 != 1;
    }

    static int markedWeight(int cell) {
        return cell % 2 == 0 ? 100 + cell : -100 - cell;
    }

    /** An uneven board whose weights are all different, made in at most 72 calls. */
    static RookBoards marked(int n) {
        RookBoards x = new RookBoards(n);
        for (int r = 0; r < n; r++) {
            for (int c = 0; c < n; c++) {
                x.set(6 * r + c, isMarkedOn(6 * r + c) ? 1 : 0);
                x.weight(6 * r + c, markedWeight(6 * r + c));
            }
        }
        return x;
    }

    /** Whether an object still is as marked made it. Uses it up: 144 calls, and an empty board after. */
    void isStillMarked(String what, RookBoards x, int n) {
        for (int r = 0; r < n; r++) {
            for (int c = 0; c < n; c++) {
                int cell = 6 * r + c;
                same(what + ", then set(" + cell + ", 0)", x.set(cell, 0), isMarkedOn(cell) ? 1 : 0);
            }
        }
        for (int r = 0; r < n; r++) {
            for (int c = 0; c < n; c++) {
                int cell = 6 * r + c;
                x.set(cell, 1);
                same(what + ", then the weight of cell " + cell, x.sum(1), markedWeight(cell));
                x.set(cell, 0);
            }
        }
    }
}
