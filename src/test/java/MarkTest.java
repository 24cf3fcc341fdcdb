/** Promises 17 and 18: mark and marked, with term II. */
public final class MarkTest {
    public static void main(String[] args) {
        Due due = new Due("promises 17, 18");
        numbers(due);
        fullWithTwenty(due);
        needsSetting(due);
        pagesStay(due);
        atEachRow(due);
        shiftWithText(due);
        shiftByLines(due);
        notOfTheText(due);
        unitBounds(due);
        markBounds(due);
        fullText(due);
        due.finish();
    }

    /** Five-letter WORDS, a LINE each. */
    private static Still column(int words) {
        Still still = Say.with("aaaaa. ".repeat(words));
        still.measure(10, 1);
        still.set();
        still.page(4, 2);
        return still;
    }

    private static void numbers(Due due) {
        Still still = column(3);
        for (int m = 0; m < 20; m++) {
            due.is("marked(" + m + ", 0) ahead of it", still.marked(m, 0), -1);
            due.is("mark " + m, still.mark(m % 3), m);
        }
        due.is("mark 20", still.mark(0), -1);
        due.is("mark 20 again", still.mark(2), -1);
        for (int m = 0; m < 20; m++) {
            due.is("marked(" + m + ", 0)", still.marked(m, 0), m % 3);
            due.is("marked(" + m + ", 2)", still.marked(m, 2), 0);
        }
        due.is("marked(20, 0)", still.marked(20, 0), -1);
    }

    /** Twenty stay twenty until text(); then the numbers begin at 0 again. */
    private static void fullWithTwenty(Due due) {
        Still still = column(5);
        for (int m = 0; m < 20; m++) {
            still.mark(4);
        }
        Say.put(still, 4, "b. c.");
        still.set();
        due.is("mark behind put() and set()", still.mark(0), -1);
        Say.text(still, "?");
        due.is("mark behind a FAULT", still.mark(0), -1);
        due.is("marked(19, 0)", still.marked(19, 0), 4);
        due.is("marked(19, 1)", still.marked(19, 1), 1);
        Say.text(still, "a b");
        due.is("marked(0, 0) behind text()", still.marked(0, 0), -1);
        still.set();
        due.is("mark behind text()", still.mark(1), 0);
        due.is("marked(0, 0)", still.marked(0, 0), 1);
        due.is("marked(1, 0)", still.marked(1, 0), -1);
    }

    private static void needsSetting(Due due) {
        Still still = Say.with("a b");
        due.is("mark(0) without a SETTING", still.mark(0), -1);
        due.is("marked(0, 0)", still.marked(0, 0), -1);
        still.set();
        due.is("mark(0)", still.mark(0), 0);
        Say.put(still, 0, "c");
        due.is("mark(0) when it is not of THE TEXT", still.mark(0), -1);
        due.is("marked(0, 0)", still.marked(0, 0), 0);
        due.is("marked(0, 1)", still.marked(0, 1), 0);
        due.is("marked(0, 2)", still.marked(0, 2), -1000);
        still.set();
        due.is("mark(0) again", still.mark(0), 1);
        due.is("marked(0, 2)", still.marked(0, 2), 0);
        still.measure(10, 1);
        still.strains(0, 0, 0, 0, 0);
        still.like('a', 'b', 4);
        due.is("mark(1) behind measure()", still.mark(1), 2);
        Say.text(still, "?");
        due.is("mark(1) behind a FAULT", still.mark(1), 3);
        Still empty = new Still();
        empty.set();
        due.is("mark(0) of an empty TEXT", empty.mark(0), -1);
    }

    private static void pagesStay(Due due) {
        Still still = column(30);
        int[] units = {0, 3, 4, 29};
        int[] pages = {0, 0, 1, 7};
        for (int m = 0; m < 4; m++) {
            due.is("mark(" + units[m] + ")", still.mark(units[m]), m);
            due.is("marked(" + m + ", 1)", still.marked(m, 1), pages[m]);
            due.is("marked(" + m + ", 2)", still.marked(m, 2), 0);
        }
        still.page(2, 2);
        int[] farther = {0, 1, 1, 7};
        for (int m = 0; m < 4; m++) {
            due.is("PAGE by ROWS then, " + m, still.marked(m, 1), pages[m]);
            due.is("SHIFT by ROWS now, " + m, still.marked(m, 2), farther[m]);
        }
        still.page(40, 2);
        int[] back = {0, 0, -1, -7};
        for (int m = 0; m < 4; m++) {
            due.is("PAGE by ROWS then, " + m, still.marked(m, 1), pages[m]);
            due.is("SHIFT back, " + m, still.marked(m, 2), back[m]);
        }
        still.page(4, 7);
        still.measure(60, 1);
        due.is("SHIFT ahead of set()", still.marked(3, 2), 0);
        still.strains(100, 0, 0, 0, 0);
        still.set();
        due.is("SHIFT in the latest SETTING", still.marked(3, 2), still.line(still.lines() - 1, 4) - 7);
        due.is("PAGE as it was", still.marked(3, 1), 7);
        Say.put(still, 0, "abcdefghijklmno");
        still.measure(10, 1);
        due.is("set() that can't be", still.set(), -1);
        due.is("SHIFT behind it", still.marked(3, 2), -1000);
        due.is("PAGE behind it", still.marked(3, 1), 7);
        due.is("UNIT behind it", still.marked(3, 0), 29);
    }

    /** The last LINE of a PAGE and the first of the next one. */
    private static void atEachRow(Due due) {
        Still still = column(9);
        for (int unit = 0; unit < 9; unit++) {
            int m = still.mark(unit);
            due.is("mark(" + unit + ")", m, unit);
            due.is("PAGE of UNIT " + unit, still.marked(m, 1), unit / 4);
        }
        due.is("a MARK in the middle of a LINE", middle(), 1);
    }

    /** A UNIT that does not begin its LINE is on the PAGE of that LINE. */
    private static int middle() {
        Still still = Say.with("aaaaaaaaa bbbbbbbbb cc dd ee ff");
        still.measure(10, 1);
        still.set();
        still.page(2, 2);
        return still.marked(still.mark(4), 1);
    }

    private static void shiftWithText(Due due) {
        Still still = column(10);
        still.mark(9);
        still.mark(2);
        still.mark(0);
        Say.put(still, 2, "bbbbb. ".repeat(9));
        still.set();
        due.is("lines()", still.lines(), 18);
        due.is("marked(0, 0)", still.marked(0, 0), 17);
        due.is("marked(0, 1)", still.marked(0, 1), 2);
        due.is("marked(0, 2)", still.marked(0, 2), 2);
        due.is("marked(1, 0)", still.marked(1, 0), 2);
        due.is("marked(1, 2)", still.marked(1, 2), 0);
        due.is("marked(2, 0)", still.marked(2, 0), 0);
    }

    /** From the first LINE of PAGE 1 on three LINES more are still on it, four are a PAGE. */
    private static void shiftByLines(Due due) {
        int[] more = {0, 1, 3, 4, 7, 8};
        int[] shifts = {0, 0, 0, 1, 1, 2};
        for (int i = 0; i < more.length; i++) {
            Still still = column(6);
            still.mark(4);
            Say.put(still, 0, "bbbbb. ".repeat(1 + more[i]));
            still.set();
            due.is(more[i] + " LINES more, UNIT", still.marked(0, 0), 4 + more[i]);
            due.is(more[i] + " LINES more, PAGE", still.marked(0, 1), 1);
            due.is(more[i] + " LINES more, SHIFT", still.marked(0, 2), shifts[i]);
        }
        Still still = column(5);
        still.mark(4);
        still.measure(60, 1);
        due.is("SHIFT ahead of set()", still.marked(0, 2), 0);
        still.set();
        due.is("SHIFT, back by one", still.marked(0, 2), -1);
        due.is("PAGE as it was", still.marked(0, 1), 1);
    }

    private static void notOfTheText(Due due) {
        Still still = column(3);
        still.mark(1);
        Say.put(still, 0, "?");
        due.is("SHIFT behind a put() that is -2", still.marked(0, 2), 0);
        Say.put(still, 3, "x");
        due.is("SHIFT behind a put() that is -1", still.marked(0, 2), 0);
        Say.put(still, 0, "");
        due.is("SHIFT behind a put() of nothing", still.marked(0, 2), 0);
        Say.put(still, 0, "aaaaa.");
        due.is("SHIFT behind put()", still.marked(0, 2), -1000);
        due.is("marked(1, 2), none such", still.marked(1, 2), -1);
        due.is("marked(-1, 2), none such", still.marked(-1, 2), -1);
        due.is("marked(0, 3)", still.marked(0, 3), -1);
        due.is("marked(0, 0)", still.marked(0, 0), 1);
        due.is("marked(0, 1)", still.marked(0, 1), 0);
        still.set();
        due.is("SHIFT behind set()", still.marked(0, 2), 0);
    }

    private static void unitBounds(Due due) {
        Still still = column(2);
        int[] outs = {-1, 2, 3, 80, Integer.MIN_VALUE, Integer.MAX_VALUE};
        for (int k : outs) {
            due.is("mark(" + k + ")", still.mark(k), -1);
            due.is("marked(0, 0) behind it", still.marked(0, 0), -1);
        }
        due.is("mark(0)", still.mark(0), 0);
        due.is("mark(1)", still.mark(1), 1);
    }

    private static void markBounds(Due due) {
        Still still = column(2);
        still.mark(1);
        int[] none = {-1, 1, 19, 20, Integer.MIN_VALUE, Integer.MAX_VALUE};
        for (int m : none) {
            for (int what = -1; what < 4; what++) {
                due.is("marked(" + m + ", " + what + ")", still.marked(m, what), -1);
            }
        }
        int[] others = {-1, 3, 4, Integer.MIN_VALUE, Integer.MAX_VALUE};
        for (int what : others) {
            due.is("marked(0, " + what + ")", still.marked(0, what), -1);
        }
        due.is("marked(0, 0)", still.marked(0, 0), 1);
    }

    private static void fullText(Due due) {
        Still still = column(80);
        still.page(2, 2);
        due.is("mark(80)", still.mark(80), -1);
        due.is("mark(79)", still.mark(79), 0);
        due.is("marked(0, 0)", still.marked(0, 0), 79);
        due.is("marked(0, 1)", still.marked(0, 1), 39);
        still.page(40, 2);
        due.is("marked(0, 2)", still.marked(0, 2), -38);
    }
}
