/** Promises 1 to 6: a new object, and the calls that change one. */
public final class ChangesTest {
    private static final int MIN = Integer.MIN_VALUE;
    private static final int MAX = Integer.MAX_VALUE;
    private static final Due DUE = new Due();

    public static void main(String[] args) {
        DUE.test("newObject", ChangesTest::newObject);
        DUE.test("set", ChangesTest::set);
        DUE.test("weight", ChangesTest::weight);
        DUE.test("complement", ChangesTest::complement);
        DUE.test("exchange", ChangesTest::exchange);
        DUE.test("turn", ChangesTest::turn);
        DUE.test("objectsAreApart", ChangesTest::objectsAreApart);
        DUE.end();
    }

    private static void newObject() {
        int[] sizes = {MIN, -1, 0, 1, 2, 3, 4, 5, 6, 7, 100, MAX};
        int[] clamped = {1, 1, 1, 1, 2, 3, 4, 5, 6, 6, 6, 6};
        for (int s = 0; s < sizes.length; s++) {
            int n = clamped[s];
            String name = "1: new RookBoards(" + sizes[s] + ")";
            RookBoards x = new RookBoards(sizes[s]);
            DUE.same(name + " cells()", x.cells(), 0);
            DUE.same(name + " rooks(n)", x.rooks(n), 0);
            DUE.same(name + " rooks(n + 1)", x.rooks(n + 1), -1);
            DUE.same(name + " most()", x.most(), 0);
            DUE.same(name + " complement()", x.complement(), n * n);
            for (int r = 0; r < n; r++) {
                for (int c = 0; c < n; c++) {
                    int w = Due.weightOf(new RookBoards(sizes[s]), n, 6 * r + c);
                    DUE.same(name + " weight of " + (6 * r + c), w, 1);
                }
            }
        }
    }

    private static void set() {
        RookBoards x = new RookBoards(4);
        DUE.same("2: set(0, 1)", x.set(0, 1), 0);
        DUE.same("2: set(0, 1) again", x.set(0, 1), 1);
        DUE.same("2: set(21, -1)", x.set(21, -1), 0);
        DUE.same("2: set(8, 2)", x.set(8, 2), 0);
        DUE.same("2: set(13, MIN)", x.set(13, MIN), 0);
        DUE.isBoard("2: all on", x, "#...", "..#.", ".#..", "...#");
        DUE.same("2: set(0, 0)", x.set(0, 0), 1);
        DUE.same("2: set(0, 0) again", x.set(0, 0), 0);
        DUE.isBoard("2: one gone", x, "....", "..#.", ".#..", "...#");
        for (int n = 1; n <= 6; n++) {
            wrongCells(n);
        }
    }

    private static void wrongCells(int n) {
        RookBoards x = new RookBoards(n);
        for (int cell = -40; cell <= 80; cell++) {
            boolean good = cell >= 0 && cell / 6 < n && cell % 6 < n;
            String name = "n " + n + ", cell " + cell + ": ";
            DUE.same("2: " + name + "set", x.set(cell, 1), good ? 0 : -1);
            DUE.same("3: " + name + "weight", x.weight(cell, 2), good ? 0 : -1);
        }
        for (int cell : new int[] {MIN, MIN + 1, MAX, MAX - 1, 6 * n, n == 6 ? 36 : n}) {
            DUE.same("2: n " + n + ", set(" + cell + ", 0)", x.set(cell, 0), -1);
            DUE.same("3: n " + n + ", weight(" + cell + ", 5)", x.weight(cell, 5), -1);
        }
        DUE.same("2: n " + n + ", cells() after the refused ones", x.cells(), n * n);
        DUE.same("3: n " + n + ", sum(1) after the refused ones", x.sum(1), 2 * n * n);
    }

    private static void weight() {
        RookBoards x = new RookBoards(3);
        DUE.same("3: weight(7, 5)", x.weight(7, 5), 0);
        DUE.same("3: weight puts no cell on the board", x.cells(), 0);
        x.complement();
        DUE.same("3: sum(1), one weight 5", x.sum(1), 13);
        DUE.same("3: weight(7, MIN)", x.weight(7, MIN), 0);
        DUE.same("3: the weight MIN", Due.weightOf(x, 3, 7), MIN);
        DUE.same("3: weight(7, 0)", x.weight(7, 0), 0);
        DUE.same("3: sum(1), one weight 0", x.sum(1), 8);
        x.weight(7, 5);
        x.set(7, 0);
        x.set(7, 1);
        DUE.same("3: the weight stays while the cell is away", Due.weightOf(x, 3, 7), 5);
    }

    private static void complement() {
        RookBoards x = Due.board("#.#", "...", ".##");
        x.weight(1, 7);
        x.weight(2, 8);
        DUE.same("4: complement()", x.complement(), 5);
        DUE.isBoard("4: complement", x, ".#.", "###", "#..");
        DUE.same("4: weight of 1 stays", Due.weightOf(x, 3, 1), 7);
        DUE.same("4: weight of 2 stays", Due.weightOf(x, 3, 2), 8);
        DUE.same("4: complement() again", x.complement(), 4);
        DUE.isBoard("4: twice", x, "#.#", "...", ".##");
        DUE.same("4: complement() of a full board", Due.board("##", "##").complement(), 0);
        DUE.same("4: complement() of an empty board", Due.board("..", "..").complement(), 4);
    }

    private static RookBoards numbered(String... rows) {
        RookBoards x = Due.board(rows);
        for (int cell = 0; cell < 36; cell++) {
            x.weight(cell, 100 + cell);
        }
        return x;
    }

    private static void exchange() {
        RookBoards x = numbered("##..", "....", "..#.", "#..#");
        DUE.same("5: exchange(0, 2)", x.exchange(0, 2), 0);
        DUE.isBoard("5: exchange(0, 2)", x, "..#.", "....", "##..", "#..#");
        for (int c = 0; c < 4; c++) {
            DUE.same("5: weight in row 0, column " + c, Due.weightOf(x, 4, c), 112 + c);
            DUE.same("5: weight in row 1, column " + c, Due.weightOf(x, 4, 6 + c), 106 + c);
            DUE.same("5: weight in row 2, column " + c, Due.weightOf(x, 4, 12 + c), 100 + c);
        }
        x = numbered("##..", "....", "..#.", "#..#");
        DUE.same("5: exchange(3, 1)", x.exchange(3, 1), 0);
        DUE.isBoard("5: exchange(3, 1)", x, "##..", "#..#", "..#.", "....");
        DUE.same("5: exchange(1, 1)", x.exchange(1, 1), 0);
        DUE.isBoard("5: a row with itself", x, "##..", "#..#", "..#.", "....");
        DUE.same("5: weight after a row with itself", Due.weightOf(x, 4, 6), 118);
        int[] wrong = {-1, 4, 5, 6, MIN, MAX};
        for (int bad : wrong) {
            DUE.same("5: exchange(0, " + bad + ")", x.exchange(0, bad), -1);
            DUE.same("5: exchange(" + bad + ", 0)", x.exchange(bad, 0), -1);
            DUE.same("5: exchange(" + bad + ", " + bad + ")", x.exchange(bad, bad), -1);
        }
        DUE.isBoard("5: after the refused ones", x, "##..", "#..#", "..#.", "....");
        DUE.same("5: weight after the refused ones", Due.weightOf(x, 4, 0), 100);
    }

    private static void turn() {
        RookBoards x = numbered("##..", "....", "..#.", "#..#");
        DUE.same("6: turn()", x.turn(), 0);
        DUE.isBoard("6: turn", x, "#..#", "#...", "..#.", "...#");
        DUE.same("6: turn() again", x.turn(), 0);
        DUE.isBoard("6: twice", x, "##..", "....", "..#.", "#..#");
        for (int r = 0; r < 4; r++) {
            // A new object for each row: one is good for 512 calls.
            RookBoards y = numbered("##..", "....", "..#.", "#..#");
            y.turn();
            for (int c = 0; c < 4; c++) {
                int w = Due.weightOf(y, 4, 6 * r + c);
                DUE.same("6: weight of " + (6 * r + c), w, 100 + 6 * c + r);
            }
        }
        DUE.same("6: turn(), n 1", Due.board("#").turn(), 0);
    }

    private static void objectsAreApart() {
        RookBoards x = new RookBoards(3);
        RookBoards y = new RookBoards(3);
        x.complement();
        x.weight(0, 9);
        DUE.same("1: another object's cells", y.cells(), 0);
        DUE.same("1: another object's weight", Due.weightOf(y, 3, 0), 1);
    }
}
