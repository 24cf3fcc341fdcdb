/** Promise 16: page, with what promise 13 and term II say of TINT and PAGE. */
public final class PageTest {
    public static void main(String[] args) {
        Due due = new Due("promise 16");
        everyPage(due);
        effects(due);
        refused(due);
        asTheyAreNow(due);
        due.finish();
    }

    /** WORDS of five letters, a LINE each. */
    private static Still column(int words) {
        Still still = Say.with("aaaaa. ".repeat(words));
        still.measure(10, 1);
        still.set();
        return still;
    }

    private static void everyPage(Due due) {
        for (int rows = -1; rows <= 43; rows++) {
            Still still = new Still();
            for (int tints = -1; tints <= 9; tints++) {
                boolean can = rows >= 2 && rows <= 40 && tints >= 2 && tints <= 7;
                due.is("page(" + rows + ", " + tints + ")", still.page(rows, tints), can);
            }
        }
    }

    private static void effects(Due due) {
        pagesAndTints(due, column(80), 10, 3);
        int[][] can = {{2, 2}, {40, 7}, {2, 7}, {40, 2}, {3, 2}, {39, 6}, {7, 3}, {13, 5}, {10, 4}};
        for (int[] p : can) {
            Still still = column(80);
            due.is("lines() is 80", still.lines(), 80);
            due.is("page(" + p[0] + ", " + p[1] + ")", still.page(p[0], p[1]), true);
            pagesAndTints(due, still, p[0], p[1]);
        }
    }

    private static void pagesAndTints(Due due, Still still, int rows, int tints) {
        int page = 0;
        int row = 0;
        for (int k = 0; k < 80; k++) {
            if (row == rows) {
                row = 0;
                page++;
            }
            due.is("PAGE of LINE " + k + " by " + rows, still.line(k, 4), page);
            due.is("TINT of LINE " + k + " by " + rows + ", " + tints, still.line(k, 3), (row + page) % tints);
            row++;
        }
        due.is("PAGE of no LINE", still.line(80, 4), -1);
        due.is("TINT of no LINE", still.line(80, 3), -1);
    }

    private static void refused(Due due) {
        int[][] cannot = {{1, 3}, {41, 3}, {0, 3}, {-1, 3}, {10, 1}, {10, 8}, {10, 0}, {10, -1}, {1, 1}, {41, 8},
            {Integer.MIN_VALUE, 3}, {Integer.MAX_VALUE, 3}, {10, Integer.MIN_VALUE}, {10, Integer.MAX_VALUE}};
        for (int[] p : cannot) {
            Still still = column(80);
            still.page(13, 5);
            due.is("page(" + p[0] + ", " + p[1] + ")", still.page(p[0], p[1]), false);
            pagesAndTints(due, still, 13, 5);
        }
    }

    /** ROWS and TINTS are those of now also where the SETTING is not of THE TEXT any more. */
    private static void asTheyAreNow(Due due) {
        Still still = column(5);
        due.is("PAGE of LINE 4", still.line(4, 4), 0);
        due.is("TINT of LINE 4", still.line(4, 3), 1);
        still.page(2, 7);
        due.is("PAGE of LINE 4 by 2", still.line(4, 4), 2);
        due.is("TINT of LINE 4 by 2, 7", still.line(4, 3), 2);
        Say.put(still, 0, "b c");
        due.is("PAGE of LINE 4 behind put()", still.line(4, 4), 2);
        still.page(4, 2);
        due.is("PAGE of LINE 4 by 4", still.line(4, 4), 1);
        due.is("TINT of LINE 4 by 4, 2", still.line(4, 3), 1);
        due.is("signs of LINE 4", still.line(4, 2), 6);
        still.set();
        due.is("PAGE of LINE 3 by 4, set anew", still.line(3, 4), 0);
        Still ahead = Say.with("aaaaa. ".repeat(5));
        due.is("page(3, 2) ahead of a SETTING", ahead.page(3, 2), true);
        ahead.measure(10, 1);
        ahead.set();
        due.is("PAGE of LINE 2", ahead.line(2, 4), 0);
        due.is("PAGE of LINE 3", ahead.line(3, 4), 1);
        due.is("TINT of LINE 4", ahead.line(4, 3), 0);
    }
}
