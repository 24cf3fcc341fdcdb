/** Promises 17 and 18: mark and marked. */
public final class MarkTest {
    public static void main(String[] args) {
        Due due = new Due("promises 17, 18");
        numbers(due);
        needsSetting(due);
        pagesStay(due);
        shiftWithText(due);
        wrongInputs(due);
        due.finish();
    }

    /** Five-letter WORDS, a LINE each. */
    private static StillText column(int words) {
        StillText still = Say.with("aaaaa. ".repeat(words));
        still.measure(10, 1);
        still.set();
        still.page(4, 2);
        return still;
    }

    private static void numbers(Due due) {
        StillText still = column(3);
        for (int m = 0; m < 20; m++) {
            due.is("mark " + m, still.mark(m % 3), m);
        }
        due.is("mark 20", still.mark(0), -1);
        due.is("marked(20, 0)", still.marked(20, 0), -1);
        due.is("marked(19, 0)", still.marked(19, 0), 1);
        due.is("marked(0, 0)", still.marked(0, 0), 0);
    }

    private static void needsSetting(Due due) {
        StillText still = Say.with("a b");
        due.is("mark(0) without a SETTING", still.mark(0), -1);
        still.set();
        due.is("mark(0)", still.mark(0), 0);
        Say.put(still, 0, "c");
        due.is("mark(0) when it is not of THE TEXT", still.mark(0), -1);
        due.is("marked(0, 0)", still.marked(0, 0), 0);
        due.is("marked(0, 1)", still.marked(0, 1), 0);
        due.is("marked(0, 2)", still.marked(0, 2), -1000);
        still.set();
        due.is("mark(0) again", still.mark(0), 1);
        due.is("marked(0, 2)", still.marked(0, 2), 0);
        still.measure(10, 1);
        due.is("mark(1) behind measure()", still.mark(1), 2);
        Say.text(still, "?");
        due.is("mark(1) behind a FAULT", still.mark(1), 3);
    }

    private static void pagesStay(Due due) {
        StillText still = column(30);
        int[] units = {0, 3, 4, 29};
        int[] pages = {0, 0, 1, 7};
        for (int m = 0; m < 4; m++) {
            due.is("mark(" + units[m] + ")", still.mark(units[m]), m);
            due.is("marked(" + m + ", 1)", still.marked(m, 1), pages[m]);
            due.is("marked(" + m + ", 2)", still.marked(m, 2), 0);
        }
        still.page(2, 2);
        int[] farther = {0, 1, 1, 7};
        for (int m = 0; m < 4; m++) {
            due.is("PAGE by ROWS then, " + m, still.marked(m, 1), pages[m]);
            due.is("SHIFT by ROWS now, " + m, still.marked(m, 2), farther[m]);
        }
        still.page(40, 2);
        int[] back = {0, 0, -1, -7};
        for (int m = 0; m < 4; m++) {
            due.is("PAGE by ROWS then, " + m, still.marked(m, 1), pages[m]);
            due.is("SHIFT back, " + m, still.marked(m, 2), back[m]);
        }
        still.page(4, 7);
        still.measure(60, 1);
        due.is("SHIFT ahead of set()", still.marked(3, 2), 0);
        still.strains(100, 0, 0, 0, 0);
        still.set();
        due.is("SHIFT in the latest SETTING", still.marked(3, 2), still.line(still.lines() - 1, 4) - 7);
        due.is("PAGE as it was", still.marked(3, 1), 7);
        Say.put(still, 0, "abcdefghijklmno");
        still.measure(10, 1);
        due.is("set() that can't be", still.set(), -1);
        due.is("SHIFT behind it", still.marked(3, 2), -1000);
    }

    private static void shiftWithText(Due due) {
        StillText still = column(10);
        still.mark(9);
        still.mark(2);
        still.mark(0);
        Say.put(still, 2, "bbbbb. ".repeat(9));
        still.set();
        due.is("lines()", still.lines(), 18);
        due.is("marked(0, 0)", still.marked(0, 0), 17);
        due.is("marked(0, 1)", still.marked(0, 1), 2);
        due.is("marked(0, 2)", still.marked(0, 2), 2);
        due.is("marked(1, 0)", still.marked(1, 0), 2);
        due.is("marked(1, 2)", still.marked(1, 2), 0);
        due.is("marked(2, 0)", still.marked(2, 0), 0);
        due.is("a MARK in the middle of a LINE", middle(), 1);
    }

    /** A UNIT that does not begin its LINE is on the PAGE of that LINE. */
    private static int middle() {
        StillText still = Say.with("aaaaaaaaa bbbbbbbbb cc dd ee ff");
        still.measure(10, 1);
        still.set();
        still.page(2, 2);
        return still.marked(still.mark(4), 1);
    }

    private static void wrongInputs(Due due) {
        StillText still = column(2);
        int[] outs = {-1, 2, 80, Integer.MIN_VALUE, Integer.MAX_VALUE};
        for (int k : outs) {
            due.is("mark(" + k + ")", still.mark(k), -1);
        }
        still.mark(1);
        int[] none = {-1, 1, 20, Integer.MIN_VALUE, Integer.MAX_VALUE};
        for (int m : none) {
            for (int what = 0; what < 3; what++) {
                due.is("marked(" + m + ", " + what + ")", still.marked(m, what), -1);
            }
        }
        int[] others = {-1, 3, Integer.MIN_VALUE, Integer.MAX_VALUE};
        for (int what : others) {
            due.is("marked(0, " + what + ")", still.marked(0, what), -1);
        }
        Say.put(still, 0, "b");
        due.is("marked(1, 2), none such", still.marked(1, 2), -1);
        due.is("marked(0, 3), of another text", still.marked(0, 3), -1);
    }
}
