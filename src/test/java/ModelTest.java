/** Promises 1 to 16 against the model: every board up to 3 by 3, and long mixed runs of each size. */
public final class ModelTest {
    private static final int CALLS = 512;
    private static final Due DUE = new Due();

    private static long seed = 20261115L;

    public static void main(String[] args) {
        for (int n = 1; n <= 3; n++) {
            for (int board = 0; board < 1 << (n * n); board++) {
                everyAnswer(n, board);
            }
        }
        for (int size = -1; size <= 8; size++) {
            for (int run = 0; run < 6; run++) {
                mixedRun(size, run);
            }
        }
        DUE.end();
    }

    /** A fixed series of numbers, the same in every run, from 0 to bound - 1. */
    private static int next(int bound) {
        seed = seed * 6364136223846793005L + 1442695040888963407L;
        return (int) ((seed >>> 33) % bound);
    }

    private static void everyAnswer(int n, int board) {
        RookBoards x = new RookBoards(n);
        Model m = new Model(n);
        String name = "n " + n + ", board " + board + ": ";
        for (int b = 0; b < n * n; b++) {
            int cell = 6 * (b / n) + b % n;
            int on = (board >> b) & 1;
            DUE.same(name + "set", x.set(cell, on), m.set(cell, on));
            DUE.same(name + "weight", x.weight(cell, 3 * b - 7), m.weight(cell, 3 * b - 7));
        }
        DUE.same(name + "cells()", x.cells(), m.cells());
        DUE.same(name + "signedSum()", x.signedSum(), m.signedSum());
        DUE.same(name + "most()", x.most(), m.most());
        DUE.same(name + "lines()", x.lines(), m.lines());
        DUE.same(name + "needed()", x.needed(), m.needed());
        for (int k = -1; k <= n + 1; k++) {
            DUE.same(name + "rooks(" + k + ")", x.rooks(k), m.rooks(k));
            DUE.same(name + "hits(" + k + ")", x.hits(k), m.hits(k));
            DUE.same(name + "sum(" + k + ")", x.sum(k), m.sum(k));
            for (int cell = -1; cell <= 6 * n; cell++) {
                String call = "through(" + cell + ", " + k + ")";
                DUE.same(name + call, x.through(cell, k), m.through(cell, k));
            }
            for (int r = 0; r < n; r++) {
                for (int i = -1; i <= m.rooks(k); i++) {
                    String call = "column(" + k + ", " + i + ", " + r + ")";
                    DUE.same(name + call, x.column(k, i, r), m.column(k, i, r));
                }
            }
        }
    }

    private static void mixedRun(int size, int run) {
        RookBoards x = new RookBoards(size);
        Model m = new Model(size);
        // Runs differ in how full the board stays: sparse ones have few rooks and many NONEs.
        int fullness = 15 + 14 * run;
        for (int call = 0; call < CALLS; call++) {
            String name = "size " + size + ", run " + run + ", call " + call + ": ";
            if (call < 60 || next(3) == 0) {
                change(name, x, m, fullness);
            } else {
                ask(name, x, m);
            }
        }
    }

    /** Mostly one of the n times n cells, now and then a number a little beside them. */
    private static int someCell(int n) {
        return next(12) == 0 ? next(44) - 4 : 6 * next(n) + next(n);
    }

    private static int someWeight() {
        int kind = next(4);
        return kind == 0 ? (int) (seed >>> 20) : kind == 1 ? 65536 : next(11) - 5;
    }

    private static void change(String name, RookBoards x, Model m, int fullness) {
        int kind = next(20);
        int cell = someCell(m.n);
        if (kind < 11) {
            int on = next(100) < fullness ? next(9) - 9 : 0;
            DUE.same(name + "set(" + cell + ", " + on + ")", x.set(cell, on), m.set(cell, on));
        } else if (kind < 17) {
            int w = someWeight();
            DUE.same(name + "weight(" + cell + ", " + w + ")", x.weight(cell, w), m.weight(cell, w));
        } else if (kind == 17) {
            int i = next(m.n + 2) - 1;
            int j = next(m.n + 2) - 1;
            DUE.same(name + "exchange(" + i + ", " + j + ")", x.exchange(i, j), m.exchange(i, j));
        } else if (kind == 18) {
            DUE.same(name + "turn()", x.turn(), m.turn());
        } else if (next(4) == 0) {
            DUE.same(name + "complement()", x.complement(), m.complement());
        }
    }

    private static void ask(String name, RookBoards x, Model m) {
        int k = next(m.n + 3) - 1;
        int cell = someCell(m.n);
        switch (next(10)) {
            case 0 -> DUE.same(name + "cells()", x.cells(), m.cells());
            case 1 -> DUE.same(name + "rooks(" + k + ")", x.rooks(k), m.rooks(k));
            case 2 -> DUE.same(name + "hits(" + k + ")", x.hits(k), m.hits(k));
            case 3 -> DUE.same(name + "through(" + cell + ", " + k + ")",
                x.through(cell, k), m.through(cell, k));
            case 4 -> DUE.same(name + "sum(" + k + ")", x.sum(k), m.sum(k));
            case 5 -> DUE.same(name + "signedSum()", x.signedSum(), m.signedSum());
            case 6 -> DUE.same(name + "most()", x.most(), m.most());
            case 7 -> DUE.same(name + "lines()", x.lines(), m.lines());
            case 8 -> DUE.same(name + "needed()", x.needed(), m.needed());
            default -> askColumn(name, x, m, k);
        }
    }

    private static void askColumn(String name, RookBoards x, Model m, int k) {
        int some = m.rooks(k);
        int i = next(some < 1 ? 2 : some + 1) - next(2);
        int r = next(m.n + 2) - 1;
        String call = "column(" + k + ", " + i + ", " + r + ")";
        DUE.same(name + call, x.column(k, i, r), m.column(k, i, r));
    }
}
