/** Promise 16: page, with what promise 13 says of TINT and PAGE. */
public final class PageTest {
    public static void main(String[] args) {
        Due due = new Due("promise 16");
        StillText still = Say.with("aaaaa. ".repeat(80));
        still.measure(10, 1);
        still.set();
        due.is("lines() is 80", still.lines(), 80);
        int[][] can = {{2, 2}, {40, 7}, {2, 7}, {40, 2}, {7, 3}, {13, 5}};
        for (int[] p : can) {
            due.is("page(" + p[0] + ", " + p[1] + ")", still.page(p[0], p[1]), true);
            pagesAndTints(due, still, p[0], p[1]);
        }
        int[][] cannot = {{1, 3}, {41, 3}, {0, 3}, {-1, 3}, {10, 1}, {10, 8}, {10, 0}, {10, -1},
            {Integer.MIN_VALUE, 3}, {Integer.MAX_VALUE, 3}, {10, Integer.MIN_VALUE}, {10, Integer.MAX_VALUE}};
        for (int[] p : cannot) {
            due.is("page(" + p[0] + ", " + p[1] + ")", still.page(p[0], p[1]), false);
        }
        pagesAndTints(due, still, 13, 5);
        due.finish();
    }

    private static void pagesAndTints(Due due, StillText still, int rows, int tints) {
        int page = 0;
        int row = 0;
        for (int k = 0; k < still.lines(); k++) {
            if (row == rows) {
                row = 0;
                page++;
            }
            due.is("PAGE of LINE " + k + " by " + rows, still.line(k, 4), page);
            due.is("TINT of LINE " + k + " by " + rows + ", " + tints, still.line(k, 3), (row + page) % tints);
            row++;
        }
    }
}
