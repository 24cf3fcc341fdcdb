/** Promises 4, 5 and 7: text, fault and unit. */
public final class TextTest {
    private static final String TWENTY = "abcdefghijklmnopqrst";

    public static void main(String[] args) {
        Due due = new Due("promises 4, 5, 7");
        reads(due);
        faults(due);
        limits(due);
        staysWithFault(due);
        goesWithText(due);
        wrongInputs(due);
        due.finish();
    }

    private static void reads(Due due) {
        read(due, "", "");
        read(due, " \n  \n", "");
        read(due, "a", "1 0;");
        read(due, "a z", "1 0;1 1;");
        read(due, "\n\nab\n \ncd\n", "2 0;2 1;");
        read(due, "ab-c-def, g. h/ i", "2-0;1-0;3,0;1.1;1/2;1 3;");
        read(due, TWENTY + "-" + TWENTY + ".", "20-0;20.0;");
        read(due, "a.\nb", "1.0;1 1;");
    }

    private static void read(Due due, String text, String units) {
        StillText still = Say.with("q.");
        int many = units.length() - units.replace(";", "").length();
        due.is("text() of [" + text + "]", Say.text(still, text), many);
        due.is("units of [" + text + "]", Say.units(still), units);
        due.is("fault(0) of [" + text + "]", still.fault(0), 0);
        due.is("fault(1) of [" + text + "]", still.fault(1), -1);
    }

    private static void faults(Due due) {
        refuse(due, "-", 1, 0);
        refuse(due, "-a", 1, 0);
        refuse(due, ",", 1, 0);
        refuse(due, "/ a", 1, 0);
        refuse(due, "a .", 1, 2);
        refuse(due, "a -b", 1, 2);
        refuse(due, "a--b", 1, 2);
        refuse(due, "a- b", 1, 2);
        refuse(due, "a-\nb", 1, 2);
        refuse(due, "a-,", 1, 2);
        refuse(due, "a-", 1, 2);
        refuse(due, "ab c-d-", 1, 7);
        refuse(due, "a,b", 1, 2);
        refuse(due, "a,.", 1, 2);
        refuse(due, "a/-b", 1, 2);
        refuse(due, "a.-", 1, 2);
        refuse(due, "ab A", 1, 3);
        refuse(due, "a`", 1, 1);
        refuse(due, "a{", 1, 1);
        refuse(due, "a\tb", 1, 1);
        refuse(due, "a\rb", 1, 1);
        refuse(due, "a\0", 1, 1);
        refuse(due, "a+", 1, 1);
        refuse(due, "a0", 1, 1);
        refuse(due, "a\u00e1", 1, 1);
        refuse(due, "aA--", 1, 1);
    }

    private static void refuse(Due due, String text, int fault, int place) {
        StillText still = Say.with("old-er text");
        due.is("text() of [" + text + "]", Say.text(still, text), -1);
        due.is("fault(0) of [" + text + "]", still.fault(0), fault);
        due.is("fault(1) of [" + text + "]", still.fault(1), place);
        due.is("the TEXT behind [" + text + "]", Say.units(still), "3-0;2 0;4 1;");
        due.is("end(1) behind [" + text + "]", still.end(1), false);
    }

    private static void limits(Due due) {
        refuse(due, TWENTY + "u", 2, 20);
        refuse(due, "a " + TWENTY + "uv?", 2, 22);
        refuse(due, "a-" + TWENTY + "u", 2, 22);
        read(due, TWENTY + "-u", "20-0;1 0;");
        String eighty = "a ".repeat(80);
        due.is("80 UNITS", Say.text(new StillText(), eighty), 80);
        refuse(due, eighty + "b", 3, 160);
        refuse(due, eighty + " \n bcd", 3, 163);
        refuse(due, eighty + " -", 1, 161);
        refuse(due, "a-".repeat(80) + "b", 3, 160);
        refuse(due, "a-".repeat(80), 1, 160);
        refuse(due, "a-".repeat(80) + "-", 1, 160);
        refuse(due, "a ".repeat(79) + TWENTY + "u b", 2, 178);
        refuse(due, eighty + TWENTY + "u", 3, 160);
        due.is("80 UNITS of one WORD", Say.text(new StillText(), "a-".repeat(79) + "b."), 80);
        due.is("600 bytes", Say.text(new StillText(), " ".repeat(599) + "a"), 1);
        refuse(due, " ".repeat(598) + "a-", 1, 600);
    }

    private static void staysWithFault(Due due) {
        StillText still = Say.with("ab cd");
        still.measure(10, 2);
        still.set();
        still.mark(1);
        due.is("text() with a FAULT", Say.text(still, "x y z?"), -1);
        due.is("lines()", Say.lines(still), "ab  cd|");
        due.is("marked(0, 0)", still.marked(0, 0), 1);
        due.is("marked(0, 2)", still.marked(0, 2), 0);
        due.is("mark(0)", still.mark(0), 1);
        due.is("the TEXT", Say.units(still), "2 0;2 1;");
    }

    private static void goesWithText(Due due) {
        StillText still = Say.with("ab cd");
        still.set();
        still.mark(1);
        due.is("text()", Say.text(still, "ef gh ij"), 3);
        due.is("lines()", still.lines(), -1);
        due.is("line(0, 0)", still.line(0, 0), -1);
        due.is("sign(0, 0)", still.sign(0, 0), -1);
        due.is("marked(0, 0)", still.marked(0, 0), -1);
        due.is("mark(0)", still.mark(0), -1);
        still.set();
        due.is("mark(2), the first again", still.mark(2), 0);
        still.end(0);
        due.is("text() of nothing", still.text(), 0);
        due.is("lines() behind nothing", still.lines(), -1);
        due.is("marked(0, 0) behind nothing", still.marked(0, 0), -1);
        due.is("unit(0, 0) behind nothing", still.unit(0, 0), -1);
    }

    private static void wrongInputs(Due due) {
        StillText still = Say.with("ab-cd, ef");
        int[] outs = {-1, 3, 80, 81, Integer.MIN_VALUE, Integer.MAX_VALUE};
        for (int k : outs) {
            for (int what = 0; what < 3; what++) {
                due.is("unit(" + k + ", " + what + ")", still.unit(k, what), -1);
            }
        }
        int[] others = {-1, 3, 4, Integer.MIN_VALUE, Integer.MAX_VALUE};
        for (int what : others) {
            due.is("unit(1, " + what + ")", still.unit(1, what), -1);
        }
        Say.text(still, "?");
        int[] faultOthers = {-1, 2, Integer.MIN_VALUE, Integer.MAX_VALUE};
        for (int what : faultOthers) {
            due.is("fault(" + what + ")", still.fault(what), -1);
        }
        due.is("fault(0)", still.fault(0), 1);
        still.end(0);
        still.text();
        due.is("fault(0) of the latest", still.fault(0), 0);
        due.is("fault(1) of the latest", still.fault(1), -1);
    }
}
