/** Promises 13 to 15: most, lines and needed. */
public final class CoversTest {
    private static final Due DUE = new Due();

    public static void main(String[] args) {
        are("empty, n 1", Due.board("."), 0, 0, 0);
        are("empty, n 6", new RookBoards(6), 0, 0, 0);
        are("full, n 1", Due.board("#"), 1, 1, 1);
        are("full, n 2", Due.board("##", "##"), 2, 2, 0);
        RookBoards full = new RookBoards(6);
        full.complement();
        are("full, n 6", full, 6, 6, 0);
        are("one cell", Due.board("...", "..#", "..."), 1, 1, 1);
        are("one row", Due.board("...", "###", "..."), 1, 1, 0);
        are("one column", Due.board(".#.", ".#.", ".#."), 1, 1, 0);
        are("a row and a column", Due.board("#..", "###", "#.."), 2, 2, 0);
        are("the diagonal", Due.board("#...", ".#..", "..#.", "...#"), 4, 4, 4);
        are("steps", Due.board("#...", "##..", "###.", "####"), 4, 4, 4);
        are("a greedy choice misleads", Due.board("##.", "#..", ".##"), 3, 3, 3);
        are("three rows in two columns", Due.board("##..", "##..", "##..", "..##"), 3, 3, 0);
        are("one forced beside a block", Due.board("##..", "##..", "..#.", "...."), 3, 3, 1);
        are("five and one, n 6",
            Due.board("######", "#.....", "#.....", "#.....", "#.....", "#....."), 2, 2, 0);
        RookBoards weighted = Due.board("#.", ".#");
        weighted.weight(0, 0);
        weighted.weight(7, -5);
        are("weights do not count", weighted, 2, 2, 2);
        DUE.end();
    }

    private static void are(String name, RookBoards x, int most, int lines, int needed) {
        DUE.same("13: " + name + ", most()", x.most(), most);
        DUE.same("14: " + name + ", lines()", x.lines(), lines);
        DUE.same("15: " + name + ", needed()", x.needed(), needed);
    }
}
