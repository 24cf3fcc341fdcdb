/** Promises 11 to 14: set, lines, line and sign. */
public final class SetTest {
    public static void main(String[] args) {
        Due due = new Due("promises 11 to 14");
        emptyText(due);
        fitting(due);
        ties(due);
        lastLine(due);
        ends(due);
        places(due);
        asItWasThen(due);
        wrongInputs(due);
        longest(due);
        againstAll(due);
        due.finish();
    }

    private static StillText plain(int longest, int spread, String text) {
        StillText still = Say.with(text);
        still.measure(longest, spread);
        still.strains(0, 0, 0, 0, 0);
        return still;
    }

    private static void emptyText(Due due) {
        StillText still = Say.with("  \n");
        due.is("lines() ahead of set()", still.lines(), -1);
        due.is("set()", still.set(), 0);
        due.is("lines()", still.lines(), 0);
        due.is("line(0, 1)", still.line(0, 1), -1);
        due.is("sign(0, 0)", still.sign(0, 0), -1);
    }

    private static void fitting(Due due) {
        StillText still = plain(10, 1, "abcdefghij");
        due.is("a UNIT of LONG signs", still.set(), 0);
        due.is("its LINE", Say.lines(still), "abcdefghij|");
        due.is("a UNIT of LONG + 1", Say.text(still, "abcdefghijk"), 1);
        due.is("set()", still.set(), -1);
        due.is("lines()", still.lines(), -1);
        Say.text(still, "abcdefghij/");
        due.is("/ is not seen", still.set(), 0);
        due.is("its LINE", Say.lines(still), "abcdefghij|");
        Say.text(still, "abcdefghij,");
        due.is(", is seen", still.set(), -1);
        Say.text(still, "abcdefghij.");
        due.is(". is seen", still.set(), -1);
        Say.text(still, "abcdefghij-k");
        due.is("no place for the -", still.set(), -1);
        Say.text(still, "k-abcdefghij");
        due.is("the last UNIT needs no -", still.set(), 0);
        due.is("its LINES", Say.lines(still), "k-|abcdefghij|");
        Say.text(still, "abcdefghi-k l");
        still.set();
        due.is("the - of one that fits", Say.lines(still), "abcdefghik|l|");
        Say.text(still, "abcdefgh-ij-k");
        still.set();
        due.is("no - behind a full LINE", Say.lines(still), "abcdefgh-|ijk|");
        Say.text(still, "ok");
        still.set();
        Say.put(still, 0, "abcdefghijk");
        due.is("set() that can't be", still.set(), -1);
        due.is("the one before stays", Say.lines(still), "ok|");
        still.measure(11, 1);
        due.is("set() that can be again", still.set(), 0);
    }

    private static void ties(Due due) {
        StillText still = plain(10, 1, "aaa bbb ccc ddd eee");
        still.set();
        due.is("more UNITS first", Say.lines(still), "aaa bbb|ccc ddd|eee|");
        still = plain(10, 1, "aaaa bbbb cccc");
        still.strains(1, 60, 60, 60, 0);
        still.set();
        due.is("the least STRAIN before that", Say.lines(still), "aaaa bbbb|cccc|");
        still = plain(11, 1, "aaa bbb ccc ddd");
        still.strains(0, 0, 0, 0, 7);
        still.like('a', 'd', 1);
        due.is("set()", still.set(), 0);
        due.is("a LIKENESS turns it", Say.lines(still), "aaa bbb|ccc|ddd|");
    }

    private static void lastLine(Due due) {
        StillText still = Say.with("a");
        due.is("set() of one LINE", still.set(), 0);
        still = Say.with("aaaaaaaaaa bbbbbbb");
        still.measure(10, 1);
        still.like('a', 'b', 2);
        due.is("the last LINE has the STRAIN of the two alone", still.set(), 60 + 14);
    }

    private static void ends(Due due) {
        String[] texts = {"aaaaaa. bbbbbb", "aaaaaa, bbbbbb", "aaaaaaa/ bbbbbb", "aaaaaaa bbbbbb", "aaaaaa-bbbbbb"};
        int[] strains = {0, 13, 13, 17, 19};
        for (int i = 0; i < texts.length; i++) {
            StillText still = Say.with(texts[i]);
            still.measure(10, 1);
            still.strains(2, 13, 17, 19, 0);
            due.is("set() of " + texts[i], still.set(), 2 * 9 + strains[i]);
        }
    }

    private static void places(Due due) {
        StillText still = plain(10, 2, "aa bbb, cc ddd");
        still.strains(0, 0, 50, 0, 3);
        still.like('a', 'c', 1);
        still.like('b', 'd', 10);
        due.is("blanks, letters, and none for a ,", still.set(), 2 + 6 + 30);
        due.is("LINES", Say.lines(still), "aa  bbb,|cc  ddd|");
        still = plain(10, 1, "aaaaaa-bbbbbbb-c");
        still.like('a', 'b', 4);
        still.like('b', 'c', 100);
        due.is("the - has none", still.set(), 24);
        due.is("LINES", Say.lines(still), "aaaaaa-|bbbbbbbc|");
    }

    private static void asItWasThen(Due due) {
        StillText still = plain(10, 3, "ab-cd, ef ghijkl-mno");
        still.set();
        String lines = "abcd,   ef|ghijklmno|";
        due.is("lines", Say.lines(still), lines);
        still.measure(60, 1);
        still.strains(100, 10000, 10000, 10000, 1000);
        still.like('a', 'g', 1000);
        Say.put(still, 2, "xxxx yyyy");
        due.is("lines() then", still.lines(), 2);
        due.is("signs then", Say.lines(still), lines);
        due.is("line(0, 0)", still.line(0, 0), 0);
        due.is("line(0, 1)", still.line(0, 1), 3);
        due.is("line(0, 2)", still.line(0, 2), 10);
        due.is("line(1, 0)", still.line(1, 0), 3);
        due.is("line(1, 1)", still.line(1, 1), 2);
        due.is("line(1, 2)", still.line(1, 2), 9);
    }

    private static void wrongInputs(Due due) {
        StillText still = plain(10, 1, "aaaaaa-bbbbbb cc");
        still.set();
        due.is("lines", Say.lines(still), "aaaaaa-|bbbbbb cc|");
        due.is("line(0, 2)", still.line(0, 2), 7);
        due.is("sign(0, 6)", still.sign(0, 6), '-');
        due.is("sign(0, 7)", still.sign(0, 7), -1);
        due.is("sign(1, 6)", still.sign(1, 6), ' ');
        due.is("sign(1, 9)", still.sign(1, 9), -1);
        due.is("sign(0, -1)", still.sign(0, -1), -1);
        due.is("sign(0, MAX)", still.sign(0, Integer.MAX_VALUE), -1);
        due.is("sign(0, MIN)", still.sign(0, Integer.MIN_VALUE), -1);
        int[] outs = {-1, 2, 80, Integer.MIN_VALUE, Integer.MAX_VALUE};
        for (int k : outs) {
            due.is("sign(" + k + ", 0)", still.sign(k, 0), -1);
            for (int what = 0; what < 5; what++) {
                due.is("line(" + k + ", " + what + ")", still.line(k, what), -1);
            }
        }
        int[] others = {-1, 5, Integer.MIN_VALUE, Integer.MAX_VALUE};
        for (int what : others) {
            due.is("line(0, " + what + ")", still.line(0, what), -1);
        }
    }

    /** The widest and the most: 80 UNITS of 20 letters, 80 LINES, 60 UNITS in a LINE, the highest STRAINS. */
    private static void longest(Due due) {
        StillText still = Say.with("a");
        String unit = "abcdefghijklmnopqrst. ";
        Say.put(still, 0, unit.repeat(27));
        for (int k = 26; k > 0; k--) {
            Say.put(still, k, unit + unit + (k > 25 ? unit : ""));
        }
        Say.put(still, 0, unit);
        due.is("unit(53, 0)", still.unit(53, 0), 20);
        for (int k = 53; k > 27; k--) {
            Say.put(still, k, unit + unit);
        }
        due.is("unit(79, 0)", still.unit(79, 0), 20);
        due.is("unit(80, 0)", still.unit(80, 0), -1);
        still.measure(60, 3);
        still.strains(100, 10000, 10000, 10000, 1000);
        for (int a = 'a'; a <= 'z'; a++) {
            still.like(a, a, 1000);
        }
        due.is("set() of 1600 letters", still.set(), 39 * (15 * 15 * 100 + 40 * 1000 + 3 * 1000));
        due.is("lines()", still.lines(), 40);
        due.is("sign(39, 44)", still.sign(39, 44), '.');
        still.measure(21, 1);
        due.is("set() of 80 LINES", still.set(), 79 * 20 * 1000);
        due.is("lines()", still.lines(), 80);
        due.is("sign(79, 19)", still.sign(79, 19), 't');
        Say.text(still, "x-".repeat(79) + "y");
        still.measure(60, 1);
        still.strains(1, 0, 0, 0, 0);
        still.like('x', 'x', 0);
        due.is("set() of one long WORD", still.set(), 0);
        due.is("line(0, 1)", still.line(0, 1), 59);
        due.is("line(0, 2)", still.line(0, 2), 60);
        due.is("line(1, 1)", still.line(1, 1), 21);
        Say.text(still, "a ".repeat(79) + "a");
        still.measure(10, 3);
        still.strains(100, 10000, 10000, 10000, 1000);
        still.set();
        due.is("all UNITS are in LINES", unitsInLines(still), 80);
    }

    private static int unitsInLines(StillText still) {
        int all = 0;
        for (int k = 0; k < still.lines(); k++) {
            all += still.line(k, 1);
        }
        return all;
    }

    /** Texts by chance: small ones against every SETTING that there is, some larger ones against the best. */
    private static void againstAll(Due due) {
        Chance chance = new Chance(11);
        for (int run = 0; run < 3200; run++) {
            AllSettings all = new AllSettings();
            StillText still = new StillText();
            chance.measures(still, all);
            String text = chance.text(run < 3000 ? 11 : 80);
            Say.text(still, text);
            all.find(text);
            due.is("run " + run + ", set() of [" + text + "]", still.set(), all.strain());
            due.is("run " + run + ", lines of [" + text + "]", Say.lines(still), all.lines());
        }
    }
}
