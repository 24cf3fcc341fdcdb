/** Promise 6: put. */
public final class PutTest {
    public static void main(String[] args) {
        Due due = new Due("promise 6");
        givesWay(due);
        refused(due);
        wholeWordsAlone(due);
        refusedAheadOfFault(due);
        faultsOfTape(due);
        noUnits(due);
        atMostEighty(due);
        settingStays(due);
        withoutSetting(due);
        marksMove(due);
        marksAtEveryUnit(due);
        lettersMove(due);
        due.finish();
    }

    private static void givesWay(Due due) {
        Still still = Say.with("ab cd, e-f gh.");
        due.is("put(1) of one WORD", Say.put(still, 1, "xyz/"), 5);
        due.is("units", Say.units(still), "2 0;3/1;1-2;1 2;2.3;");
        due.is("put(0) of more", Say.put(still, 0, " p-qq. rrr\n"), 7);
        due.is("units", Say.units(still), "1-0;2.0;3 1;3/2;1-3;1 3;2.4;");
        due.is("put(6), the last", Say.put(still, 6, "s t"), 8);
        due.is("units", Say.units(still), "1-0;2.0;3 1;3/2;1-3;1 3;1 4;1 5;");
        due.is("end(1) when the tape went", still.end(1), false);
    }

    private static void refused(Due due) {
        Still still = Say.with("ab c-d-e fg");
        int[] ks = {-1, 1, 2, 3, 5, 80, Integer.MIN_VALUE, Integer.MAX_VALUE};
        for (int k : ks) {
            due.is("put(" + k + ")", Say.put(still, k, "x"), -1);
            due.is("end(1) behind put(" + k + ")", still.end(1), false);
            due.is("units behind put(" + k + ")", Say.units(still), "2 0;1-1;1-1;1 1;2 2;");
        }
        due.is("put(0) into an empty TEXT", Say.put(new Still(), 0, "x"), -1);
        due.is("put(-1) into an empty TEXT", Say.put(new Still(), -1, "x"), -1);
    }

    /** UNITS of one WORD are its parts, also the first and the last; WORDS beside it are whole. */
    private static void wholeWordsAlone(Due due) {
        String text = "ab c-d-e fg h-i, j.";
        int[] answers = {8, -1, -1, -1, 8, -1, -1, 8};
        for (int k = 0; k < answers.length; k++) {
            due.is("put(" + k + ") in " + text, Say.put(Say.with(text), k, "x"), answers[k]);
        }
        due.is("put(8) in " + text, Say.put(Say.with(text), 8, "x"), -1);
        due.is("put(0) of the one UNIT", Say.put(Say.with("a"), 0, "x"), 1);
        due.is("put(1) behind the one UNIT", Say.put(Say.with("a"), 1, "x"), -1);
        Still still = Say.with("a b");
        Say.put(still, 1, "c-d");
        due.is("put(1) of a part that was put", Say.put(still, 1, "x"), -1);
        due.is("put(2) of a part that was put", Say.put(still, 2, "x"), -1);
        due.is("put(0) beside it", Say.put(still, 0, "e f"), 4);
        due.is("units", Say.units(still), "1 0;1 1;1-2;1 2;");
    }

    /** A put() that is -1 reads nothing, whatever is on the tape; the tape goes with it. */
    private static void refusedAheadOfFault(Due due) {
        String[] tapes = {"x", "", "?", "abcdefghijklmnopqrstu", "a ".repeat(81)};
        int[] ks = {-1, 1, 2, 3};
        for (String tape : tapes) {
            for (int k : ks) {
                Still still = Say.with("ab c-d");
                due.is("put(" + k + ") of [" + tape + "]", Say.put(still, k, tape), -1);
                due.is("fault(0) behind it", still.fault(0), 0);
                due.is("fault(1) behind it", still.fault(1), -1);
                due.is("end(1) behind it", still.end(1), false);
                Say.text(still, "abc?");
                due.is("put(" + k + ") of [" + tape + "]", Say.put(still, k, tape), -1);
                due.is("fault(0) as it was", still.fault(0), 1);
                due.is("fault(1) as it was", still.fault(1), 3);
                due.is("units behind it", Say.units(still), "2 0;1-1;1 1;");
            }
        }
    }

    private static void faultsOfTape(Due due) {
        Still still = Say.with("ab c-d");
        due.is("put(0) with a FAULT", Say.put(still, 0, "x y?"), -2);
        due.is("fault(0)", still.fault(0), 1);
        due.is("fault(1)", still.fault(1), 3);
        due.is("put(1) is -1", Say.put(still, 1, "x"), -1);
        due.is("fault(0) as it was", still.fault(0), 1);
        due.is("put(9) is -1", Say.put(still, 9, "abcdefghijklmnopqrstu"), -1);
        due.is("fault(1) as it was", still.fault(1), 3);
        due.is("put(0) too soon", Say.put(still, 0, "x-"), -2);
        due.is("fault(1)", still.fault(1), 2);
        due.is("put(0), 21 letters", Say.put(still, 0, "abcdefghijklmnopqrstu"), -2);
        due.is("fault(0)", still.fault(0), 2);
        due.is("fault(1)", still.fault(1), 20);
        due.is("put(0), 81 UNITS", Say.put(still, 0, "a ".repeat(81)), -2);
        due.is("fault(0)", still.fault(0), 3);
        due.is("fault(1)", still.fault(1), 160);
        due.is("end(1) behind a FAULT", still.end(1), false);
        due.is("the TEXT", Say.units(still), "2 0;1-1;1 1;");
        Say.put(still, 0, "?");
        due.is("put(0) without a FAULT", Say.put(still, 0, "x"), 3);
        due.is("fault(0)", still.fault(0), 0);
        due.is("fault(1)", still.fault(1), -1);
    }

    private static void noUnits(Due due) {
        String[] tapes = {"", " ", "\n", " \n "};
        for (String tape : tapes) {
            Still still = Say.with("ab c-d");
            Say.put(still, 0, "?");
            due.is("put(0) of [" + tape + "]", Say.put(still, 0, tape), -2);
            due.is("fault(0)", still.fault(0), 0);
            due.is("fault(1)", still.fault(1), -1);
            due.is("end(1)", still.end(1), false);
            due.is("the TEXT", Say.units(still), "2 0;1-1;1 1;");
        }
    }

    private static void atMostEighty(Due due) {
        Still still = Say.with("a ".repeat(78));
        Say.put(still, 0, "?");
        due.is("put(5) to 81", Say.put(still, 5, "x-y z-w"), -2);
        due.is("fault(0)", still.fault(0), 0);
        due.is("fault(1)", still.fault(1), -1);
        due.is("end(1)", still.end(1), false);
        due.is("unit(77, 2)", still.unit(77, 2), 77);
        due.is("unit(78, 0)", still.unit(78, 0), -1);
        due.is("put(77) to 80", Say.put(still, 77, "xx-yyy zzzz"), 80);
        due.is("unit(79, 0)", still.unit(79, 0), 4);
        due.is("unit(79, 2)", still.unit(79, 2), 78);
        due.is("put(0) of one for one", Say.put(still, 0, "qq"), 80);
        due.is("put(0) of two for one", Say.put(still, 0, "q q"), -2);
        due.is("put(79) of one UNIT into 80", Say.put(still, 79, "x."), 80);
        due.is("put(79) of two into 80", Say.put(still, 79, "x-y"), -2);
        due.is("put(80)", Say.put(still, 80, "x"), -1);
        due.is("unit(79, 1)", still.unit(79, 1), '.');
        Still one = Say.with("a");
        due.is("put(0) of 81", Say.put(one, 0, "bc ".repeat(81)), -2);
        due.is("fault(0)", one.fault(0), 3);
        due.is("put(0) of 80", Say.put(one, 0, "bc ".repeat(80)), 80);
        due.is("fault(0)", one.fault(0), 0);
        Still two = Say.with("a b");
        due.is("put(1) of 80", Say.put(two, 1, "bc ".repeat(80)), -2);
        due.is("fault(0)", two.fault(0), 0);
        due.is("units", Say.units(two), "1 0;1 1;");
        due.is("put(1) of 79", Say.put(two, 1, "bc ".repeat(79)), 80);
    }

    private static void withoutSetting(Due due) {
        Still still = Say.with("a b");
        due.is("put(0) without a SETTING", Say.put(still, 0, "c d"), 3);
        due.is("lines()", still.lines(), -1);
        due.is("mark(0)", still.mark(0), -1);
        due.is("set()", still.set(), 0);
        due.is("mark(2)", still.mark(2), 0);
        due.is("lines", Say.lines(still), "c d b|");
    }

    private static void settingStays(Due due) {
        Still still = Say.with("aaaaaaa bbbbbb, cc");
        still.measure(10, 3);
        int strain = still.set();
        String before = Say.lines(still);
        due.is("lines before", before, "aaaaaaa|bbbbbb,|cc|");
        Say.put(still, 0, "dd ee");
        due.is("lines behind put()", Say.lines(still), before);
        due.is("line(1, 0)", still.line(1, 0), 1);
        due.is("line(1, 1)", still.line(1, 1), 1);
        due.is("rivers(1)", still.rivers(1), 0);
        due.is("mark(0)", still.mark(0), -1);
        still.measure(10, 1);
        due.is("lines behind measure()", Say.lines(still), before);
        Say.put(still, 0, "abcdefghijk");
        due.is("set() that can't be", still.set(), -1);
        due.is("the one before stays", Say.lines(still), before);
        due.is("it is not of THE TEXT", still.mark(0), -1);
        Say.put(still, 0, "dd");
        due.is("set()", still.set() != strain, true);
        due.is("lines behind set()", Say.lines(still), "dd ee|bbbbbb, cc|");
        due.is("mark(0)", still.mark(0), 0);
        due.is("a put() that is -2", Say.put(still, 0, "?"), -2);
        due.is("leaves it of THE TEXT", still.mark(0), 1);
        due.is("a put() that is -1", Say.put(still, 9, "x"), -1);
        due.is("leaves it of THE TEXT", still.mark(0), 2);
        due.is("a put() of the same", Say.put(still, 0, "dd"), 4);
        due.is("does not", still.mark(0), -1);
    }

    private static void marksMove(Due due) {
        Still still = Say.with("a b c d");
        still.set();
        for (int k = 0; k < 4; k++) {
            still.mark(k);
        }
        Say.put(still, 1, "x-y z");
        int[] units = {0, 1, 4, 5};
        for (int m = 0; m < 4; m++) {
            due.is("marked(" + m + ", 0)", still.marked(m, 0), units[m]);
        }
        Say.put(still, 4, "p q.");
        int[] later = {0, 1, 4, 6};
        for (int m = 0; m < 4; m++) {
            due.is("marked(" + m + ", 0)", still.marked(m, 0), later[m]);
        }
        Say.put(still, 4, "?");
        due.is("marked(3, 0) behind -2", still.marked(3, 0), 6);
    }

    /** MARKS ahead of UNIT k stay, at it they are at the first new one, behind it they move. */
    private static void marksAtEveryUnit(Due due) {
        for (int k = 0; k < 5; k++) {
            for (int more = 0; more < 3; more++) {
                Still still = Say.with("a b c d e");
                still.set();
                for (int unit = 0; unit < 5; unit++) {
                    still.mark(unit);
                }
                Say.put(still, k, "x " + "y ".repeat(more));
                for (int m = 0; m < 5; m++) {
                    due.is("marked(" + m + ", 0) behind put(" + k + ")", still.marked(m, 0), m > k ? m + more : m);
                    due.is("marked(" + m + ", 1) behind put(" + k + ")", still.marked(m, 1), 0);
                    due.is("marked(" + m + ", 2) behind put(" + k + ")", still.marked(m, 2), -1000);
                }
            }
        }
        Still full = Say.with("a ".repeat(79));
        full.set();
        full.mark(78);
        full.mark(0);
        Say.put(full, 78, "b c");
        due.is("marked(0, 0) at the last", full.marked(0, 0), 78);
        Say.put(full, 0, "d-e");
        due.is("marked(0, 0) when it would be too many", full.marked(0, 0), 78);
        Say.text(full, "a ".repeat(79));
        full.set();
        full.mark(78);
        Say.put(full, 0, "b c");
        due.is("marked(0, 0) moved to UNIT 79", full.marked(0, 0), 79);
    }

    /** UNITS of full length keep their letters when they move over one another. */
    private static void lettersMove(Due due) {
        Still still = Say.with("abcdefghijklmnopqrst, x uvwxyzabcdefghijklmn.");
        due.is("put(1)", Say.put(still, 1, "m-nnnnnnnnnnnnnnnnnnnn o"), 5);
        still.measure(60, 1);
        still.strains(0, 0, 0, 0, 0);
        still.set();
        due.is("lines", Say.lines(still),
                "abcdefghijklmnopqrst, mnnnnnnnnnnnnnnnnnnnn o|uvwxyzabcdefghijklmn.|");
    }
}
