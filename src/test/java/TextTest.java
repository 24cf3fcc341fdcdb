/** Promises 4, 5 and 7: text, fault and unit. */
public final class TextTest {
    private static final String TWENTY = "abcdefghijklmnopqrst";

    public static void main(String[] args) {
        Due due = new Due("promises 4, 5, 7");
        reads(due);
        faults(due);
        limits(due);
        staysWithFault(due);
        goesWithText(due);
        faultOfTheLatest(due);
        unitBounds(due);
        faultBounds(due);
        fullText(due);
        due.finish();
    }

    private static void reads(Due due) {
        read(due, "", "");
        read(due, " \n  \n", "");
        read(due, "a", "1 0;");
        read(due, "a z", "1 0;1 1;");
        read(due, "\n\nab\n \ncd\n", "2 0;2 1;");
        read(due, "ab-c-def, g. h/ i", "2-0;1-0;3,0;1.1;1/2;1 3;");
        read(due, TWENTY + "-" + TWENTY + ".", "20-0;20.0;");
        read(due, "a.\nb", "1.0;1 1;");
        read(due, TWENTY + "-u", "20-0;1 0;");
    }

    private static void read(Due due, String text, String units) {
        Still still = Say.with("q.");
        int many = units.length() - units.replace(";", "").length();
        due.is("text() of [" + text + "]", Say.text(still, text), many);
        due.is("units of [" + text + "]", Say.units(still), units);
        due.is("fault(0) of [" + text + "]", still.fault(0), 0);
        due.is("fault(1) of [" + text + "]", still.fault(1), -1);
        due.is("end(1) behind [" + text + "]", still.end(1), false);
    }

    private static void faults(Due due) {
        refuse(due, "-", 1, 0);
        refuse(due, "-a", 1, 0);
        refuse(due, ",", 1, 0);
        refuse(due, "/ a", 1, 0);
        refuse(due, "a .", 1, 2);
        refuse(due, "a -b", 1, 2);
        refuse(due, "a--b", 1, 2);
        refuse(due, "a- b", 1, 2);
        refuse(due, "a-\nb", 1, 2);
        refuse(due, "a-,", 1, 2);
        refuse(due, "a-", 1, 2);
        refuse(due, "ab c-d-", 1, 7);
        refuse(due, "a,b", 1, 2);
        refuse(due, "a,.", 1, 2);
        refuse(due, "a/-b", 1, 2);
        refuse(due, "ab A", 1, 3);
        refuse(due, "aA--", 1, 1);
    }

    private static void refuse(Due due, String text, int fault, int place) {
        Still still = Say.with("old-er text");
        due.is("text() of [" + text + "]", Say.text(still, text), -1);
        due.is("fault(0) of [" + text + "]", still.fault(0), fault);
        due.is("fault(1) of [" + text + "]", still.fault(1), place);
        due.is("the TEXT behind [" + text + "]", Say.units(still), "3-0;2 0;4 1;");
        due.is("end(1) behind [" + text + "]", still.end(1), false);
    }

    private static void limits(Due due) {
        refuse(due, TWENTY + "u", 2, 20);
        refuse(due, "a " + TWENTY + "uv?", 2, 22);
        refuse(due, "a ".repeat(80) + "b", 3, 160);
        refuse(due, "a-".repeat(80) + "b", 3, 160);
        due.is("80 UNITS", Say.text(new Still(), "a ".repeat(80)), 80);
        due.is("80 UNITS of one WORD", Say.text(new Still(), "a-".repeat(79) + "b."), 80);
    }

    private static void staysWithFault(Due due) {
        String[] wrong = {"x y z?", "x-", TWENTY + "u", "a ".repeat(81)};
        for (String text : wrong) {
            Still still = Say.with("ab cd");
            still.measure(10, 2);
            still.set();
            still.mark(1);
            due.is("text() with a FAULT", Say.text(still, text), -1);
            due.is("lines()", Say.lines(still), "ab  cd|");
            due.is("marked(0, 0)", still.marked(0, 0), 1);
            due.is("marked(0, 2)", still.marked(0, 2), 0);
            due.is("mark(0)", still.mark(0), 1);
            due.is("the TEXT", Say.units(still), "2 0;2 1;");
            due.is("the tape went", still.end(1), false);
            due.is("set() as before", still.set(), 0);
            due.is("lines() as before", Say.lines(still), "ab  cd|");
        }
    }

    private static void goesWithText(Due due) {
        Still still = Say.with("ab cd");
        still.set();
        still.mark(1);
        due.is("text()", Say.text(still, "ef gh ij"), 3);
        nothingIsSet(due, still);
        still.set();
        due.is("mark(2), the first again", still.mark(2), 0);
        due.is("text() of nothing", still.text(), 0);
        nothingIsSet(due, still);
        due.is("unit(0, 0) behind nothing", still.unit(0, 0), -1);
        Say.text(still, "ab cd");
        still.set();
        still.mark(0);
        due.is("text() of the same", Say.text(still, "ab cd"), 2);
        nothingIsSet(due, still);
    }

    private static void nothingIsSet(Due due, Still still) {
        due.is("lines()", still.lines(), -1);
        due.is("line(0, 0)", still.line(0, 0), -1);
        due.is("line(0, 3)", still.line(0, 3), -1);
        due.is("sign(0, 0)", still.sign(0, 0), -1);
        due.is("rivers(1)", still.rivers(1), -1);
        due.is("mark(0)", still.mark(0), -1);
        for (int what = 0; what < 3; what++) {
            due.is("marked(0, " + what + ")", still.marked(0, what), -1);
        }
    }

    private static void faultOfTheLatest(Due due) {
        Still still = new Still();
        due.is("fault(0) ahead of any", still.fault(0), 0);
        due.is("fault(1) ahead of any", still.fault(1), -1);
        still.put(0);
        due.is("fault(0) behind a put() that is -1", still.fault(0), 0);
        due.is("fault(1) behind a put() that is -1", still.fault(1), -1);
        Say.text(still, TWENTY + "u");
        due.is("fault(0)", still.fault(0), 2);
        Say.text(still, "ab?");
        due.is("fault(0) of the later one", still.fault(0), 1);
        due.is("fault(1) of the later one", still.fault(1), 2);
        still.put(0);
        due.is("fault(0) behind a put() that is -1", still.fault(0), 1);
        due.is("fault(1) behind a put() that is -1", still.fault(1), 2);
        still.text();
        due.is("fault(0) behind one without", still.fault(0), 0);
        due.is("fault(1) behind one without", still.fault(1), -1);
    }

    private static void unitBounds(Due due) {
        Still still = Say.with("ab-cd, ef");
        int[] outs = {-1, 3, 4, 79, 80, 81, Integer.MIN_VALUE, Integer.MAX_VALUE};
        for (int k : outs) {
            for (int what = 0; what < 3; what++) {
                due.is("unit(" + k + ", " + what + ")", still.unit(k, what), -1);
            }
        }
        int[] others = {-1, 3, 4, Integer.MIN_VALUE, Integer.MAX_VALUE};
        for (int what : others) {
            for (int k = -1; k < 4; k++) {
                due.is("unit(" + k + ", " + what + ")", still.unit(k, what), -1);
            }
        }
        due.is("the others", Say.units(still), "2-0;2,0;2 1;");
        Say.text(still, "x");
        due.is("unit(0, 0) of a shorter TEXT", still.unit(0, 0), 1);
        due.is("unit(1, 0) of a shorter TEXT", still.unit(1, 0), -1);
        due.is("unit(1, 1) of a shorter TEXT", still.unit(1, 1), -1);
        due.is("unit(1, 2) of a shorter TEXT", still.unit(1, 2), -1);
    }

    private static void faultBounds(Due due) {
        Still still = Say.with("abc?");
        int[] others = {-1, 2, 3, Integer.MIN_VALUE, Integer.MAX_VALUE};
        for (int what : others) {
            due.is("fault(" + what + ")", still.fault(what), -1);
        }
        due.is("fault(0)", still.fault(0), 1);
        due.is("fault(1)", still.fault(1), 3);
        Say.text(still, "abc");
        for (int what : others) {
            due.is("fault(" + what + ") without one", still.fault(what), -1);
        }
    }

    private static void fullText(Due due) {
        Still still = Say.with("ab-".repeat(79) + "c.");
        due.is("unit(78, 1)", still.unit(78, 1), '-');
        due.is("unit(79, 0)", still.unit(79, 0), 1);
        due.is("unit(79, 1)", still.unit(79, 1), '.');
        due.is("unit(79, 2)", still.unit(79, 2), 0);
        due.is("unit(80, 0)", still.unit(80, 0), -1);
        Say.text(still, "a/ ".repeat(79) + TWENTY);
        due.is("unit(78, 1)", still.unit(78, 1), '/');
        due.is("unit(79, 0)", still.unit(79, 0), 20);
        due.is("unit(79, 1)", still.unit(79, 1), ' ');
        due.is("unit(79, 2)", still.unit(79, 2), 79);
        due.is("unit(80, 2)", still.unit(80, 2), -1);
    }
}
