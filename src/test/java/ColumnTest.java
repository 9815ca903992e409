/** Promise 16: column, and with it the order of placements. */
public final class ColumnTest {
    private static final int MIN = Integer.MIN_VALUE;
    private static final int MAX = Integer.MAX_VALUE;
    private static final Due DUE = new Due();

    public static void main(String[] args) {
        RookBoards x = Due.board("#.#", "##.", "..#");
        // Each text has the columns of one placement by rows, 3 for none, in the document's order.
        are("three by three", x, 3, 0, "333");
        are("three by three", x, 3, 1, "033", "233", "303", "313", "332");
        are("three by three", x, 3, 2, "013", "032", "203", "213", "302", "312");
        are("three by three", x, 3, 3, "012");
        are("two by two", Due.board("##", "##"), 2, 1, "02", "12", "20", "21");
        are("two by two", Due.board("##", "##"), 2, 2, "01", "10");
        are("n 1", Due.board("#"), 1, 0, "1");
        are("n 1", Due.board("#"), 1, 1, "0");
        are("empty", Due.board("..", ".."), 2, 0, "22");
        are("empty", Due.board("..", ".."), 2, 1);
        are("empty", Due.board("..", ".."), 2, 2);
        lastOfFull();
        wrongArguments();
        DUE.end();
    }

    private static void are(String name, RookBoards x, int n, int k, String... placements) {
        for (int r = 0; r < n; r++) {
            for (int i = 0; i < placements.length; i++) {
                String call = "16: " + name + ", column(" + k + ", " + i + ", " + r + ")";
                DUE.same(call, x.column(k, i, r), placements[i].charAt(r) - '0');
            }
            for (int i : new int[] {-1, MIN, placements.length, placements.length + 1, MAX}) {
                String call = "16: " + name + ", column(" + k + ", " + i + ", " + r + ")";
                DUE.same(call, x.column(k, i, r), -4);
            }
        }
    }

    private static void lastOfFull() {
        RookBoards x = new RookBoards(6);
        x.complement();
        for (int r = 0; r < 6; r++) {
            DUE.same("16: full, first, row " + r, x.column(6, 0, r), r);
            DUE.same("16: full, last, row " + r, x.column(6, 719, r), 5 - r);
            DUE.same("16: full, four rooks, last, row " + r, x.column(4, 5399, r), r < 2 ? 6 : 7 - r);
            DUE.same("16: full, past the last, row " + r, x.column(6, 720, r), -4);
        }
    }

    private static void wrongArguments() {
        RookBoards x = Due.board("#.#", "##.", "..#");
        for (int bad : new int[] {-1, -4, 6, 7, MIN, MAX}) {
            DUE.same("16: column(" + bad + ", 0, 0)", x.column(bad, 0, 0), -1);
            DUE.same("16: column(1, 0, " + bad + ")", x.column(1, 0, bad), -1);
            DUE.same("16: before NONE, k " + bad, x.column(bad, -1, 0), -1);
            DUE.same("16: before NONE, r " + bad, x.column(1, 99, bad), -1);
        }
        DUE.same("16: k n + 1", x.column(4, 0, 0), -1);
        DUE.same("16: r n", x.column(1, 0, 3), -1);
        DUE.same("16: k n", x.column(3, 0, 0), 0);
    }
}
