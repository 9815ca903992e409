import java.util.ArrayList;
import java.util.List;

/** The document's answers by its own words: every placement is written out and looked at. */
final class Model {
    final int n;
    private boolean[][] on;
    private int[][] weights;

    Model(int size) {
        n = Math.max(1, Math.min(6, size));
        on = new boolean[n][n];
        weights = new int[n][n];
        for (int[] row : weights) {
            java.util.Arrays.fill(row, 1);
        }
    }

    private boolean isCell(int cell) {
        for (int r = 0; r < n; r++) {
            for (int c = 0; c < n; c++) {
                if (cell == 6 * r + c) {
                    return true;
                }
            }
        }
        return false;
    }

    int set(int cell, int value) {
        if (!isCell(cell)) {
            return -1;
        }
        int before = on[cell / 6][cell % 6] ? 1 : 0;
        on[cell / 6][cell % 6] = value != 0;
        return before;
    }

    int weight(int cell, int w) {
        if (!isCell(cell)) {
            return -1;
        }
        weights[cell / 6][cell % 6] = w;
        return 0;
    }

    int complement() {
        for (boolean[] row : on) {
            for (int c = 0; c < n; c++) {
                row[c] = !row[c];
            }
        }
        return cells();
    }

    int exchange(int i, int j) {
        if (i < 0 || i >= n || j < 0 || j >= n) {
            return -1;
        }
        boolean[] row = on[i];
        on[i] = on[j];
        on[j] = row;
        int[] w = weights[i];
        weights[i] = weights[j];
        weights[j] = w;
        return 0;
    }

    int turn() {
        boolean[][] newOn = new boolean[n][n];
        int[][] newWeights = new int[n][n];
        for (int r = 0; r < n; r++) {
            for (int c = 0; c < n; c++) {
                newOn[r][c] = on[c][r];
                newWeights[r][c] = weights[c][r];
            }
        }
        on = newOn;
        weights = newWeights;
        return 0;
    }

    int cells() {
        int count = 0;
        for (boolean[] row : on) {
            for (boolean cell : row) {
                count += cell ? 1 : 0;
            }
        }
        return count;
    }

    /** All placements of k rooks, as the column of each row, n for none. */
    private List<int[]> placements(int k, boolean onBoardOnly) {
        List<int[]> all = new ArrayList<>();
        extend(new int[n], 0, 0, k, onBoardOnly, all);
        all.sort(Model::order);
        return all;
    }

    private void extend(int[] cols, int row, int used, int k, boolean onBoardOnly, List<int[]> all) {
        if (row == n) {
            if (Integer.bitCount(used) == k) {
                all.add(cols.clone());
            }
            return;
        }
        cols[row] = n;
        extend(cols, row + 1, used, k, onBoardOnly, all);
        for (int c = 0; c < n; c++) {
            if ((used & (1 << c)) == 0 && (on[row][c] || !onBoardOnly)) {
                cols[row] = c;
                extend(cols, row + 1, used | (1 << c), k, onBoardOnly, all);
            }
        }
    }

    private static int order(int[] a, int[] b) {
        int n = a.length;
        for (int r = 0; r < n; r++) {
            if (a[r] != b[r]) {
                if (a[r] == n || b[r] == n) {
                    return a[r] == n ? 1 : -1;
                }
                return a[r] < b[r] ? -1 : 1;
            }
        }
        return 0;
    }

    private boolean isCount(int k) {
        return k >= 0 && k <= n;
    }

    int rooks(int k) {
        return isCount(k) ? placements(k, true).size() : -1;
    }

    int hits(int k) {
        if (!isCount(k)) {
            return -1;
        }
        int found = 0;
        for (int[] p : placements(n, false)) {
            int hit = 0;
            for (int r = 0; r < n; r++) {
                hit += on[r][p[r]] ? 1 : 0;
            }
            found += hit == k ? 1 : 0;
        }
        return found;
    }

    int through(int cell, int k) {
        if (!isCell(cell) || !isCount(k)) {
            return -1;
        }
        int found = 0;
        for (int[] p : placements(k, true)) {
            found += p[cell / 6] == cell % 6 ? 1 : 0;
        }
        return found;
    }

    private int worth(int[] p) {
        int product = 1;
        for (int r = 0; r < n; r++) {
            product *= p[r] == n ? 1 : weights[r][p[r]];
        }
        return product;
    }

    int sum(int k) {
        if (!isCount(k)) {
            return -1;
        }
        int total = 0;
        for (int[] p : placements(k, true)) {
            total += worth(p);
        }
        return total;
    }

    int signedSum() {
        int total = 0;
        for (int[] p : placements(n, true)) {
            int pairs = 0;
            for (int r = 0; r < n; r++) {
                for (int s = r + 1; s < n; s++) {
                    pairs += p[r] > p[s] ? 1 : 0;
                }
            }
            total += (pairs % 2 == 0 ? 1 : -1) * worth(p);
        }
        return total;
    }

    int most() {
        int k = n;
        while (placements(k, true).isEmpty()) {
            k--;
        }
        return k;
    }

    int lines() {
        int least = 2 * n;
        for (int chosen = 0; chosen < 1 << (2 * n); chosen++) {
            boolean all = true;
            for (int r = 0; r < n; r++) {
                for (int c = 0; c < n; c++) {
                    boolean in = (chosen & (1 << r)) != 0 || (chosen & (1 << (n + c))) != 0;
                    all &= in || !on[r][c];
                }
            }
            if (all) {
                least = Math.min(least, Integer.bitCount(chosen));
            }
        }
        return least;
    }

    int needed() {
        List<int[]> greatest = placements(most(), true);
        int found = 0;
        for (int r = 0; r < n; r++) {
            for (int c = 0; c < n; c++) {
                boolean inAll = on[r][c];
                for (int[] p : greatest) {
                    inAll &= p[r] == c;
                }
                found += inAll ? 1 : 0;
            }
        }
        return found;
    }

    int column(int k, int i, int r) {
        if (!isCount(k) || r < 0 || r >= n) {
            return -1;
        }
        List<int[]> all = placements(k, true);
        return i < 0 || i >= all.size() ? -4 : all.get(i)[r];
    }
}
