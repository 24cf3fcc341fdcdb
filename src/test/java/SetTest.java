/** Promises 11 to 14: set, lines, line and sign. */
public final class SetTest {
    public static void main(String[] args) {
        Due due = new Due("promises 11 to 14");
        emptyText(due);
        fitting(due);
        longestAlone(due);
        longestOfTwo(due);
        tooLongAnywhere(due);
        joints(due);
        ties(due);
        tiesInLaterLines(due);
        lastLine(due);
        ends(due);
        places(due);
        signsWithoutStrain(due);
        neighboursAlone(due);
        emptyAgain(due);
        asItWasThen(due);
        wrongInputs(due);
        longest(due);
        againstAll(due);
        due.finish();
    }

    private static Still plain(int longest, int spread, String text) {
        Still still = Say.with(text);
        still.measure(longest, spread);
        still.strains(0, 0, 0, 0, 0);
        return still;
    }

    private static void emptyText(Due due) {
        Still still = Say.with("  \n");
        due.is("lines() ahead of set()", still.lines(), -1);
        due.is("set()", still.set(), 0);
        due.is("lines()", still.lines(), 0);
        due.is("line(0, 1)", still.line(0, 1), -1);
        due.is("sign(0, 0)", still.sign(0, 0), -1);
    }

    private static void fitting(Due due) {
        Still still = plain(10, 1, "abcdefghij");
        due.is("a UNIT of LONG signs", still.set(), 0);
        due.is("its LINE", Say.lines(still), "abcdefghij|");
        due.is("a UNIT of LONG + 1", Say.text(still, "abcdefghijk"), 1);
        due.is("set()", still.set(), -1);
        due.is("lines()", still.lines(), -1);
        Say.text(still, "abcdefghij/");
        due.is("/ is not seen", still.set(), 0);
        due.is("its LINE", Say.lines(still), "abcdefghij|");
        Say.text(still, "abcdefghij,");
        due.is(", is seen", still.set(), -1);
        Say.text(still, "abcdefghij.");
        due.is(". is seen", still.set(), -1);
        Say.text(still, "abcdefghij-k");
        due.is("no place for the -", still.set(), -1);
        Say.text(still, "k-abcdefghij");
        due.is("the last UNIT needs no -", still.set(), 0);
        due.is("its LINES", Say.lines(still), "k-|abcdefghij|");
        Say.text(still, "abcdefghi-k l");
        still.set();
        due.is("the - of one that fits", Say.lines(still), "abcdefghik|l|");
        Say.text(still, "abcdefgh-ij-k");
        still.set();
        due.is("no - behind a full LINE", Say.lines(still), "abcdefgh-|ijk|");
        Say.text(still, "ok");
        still.set();
        Say.put(still, 0, "abcdefghijk");
        due.is("set() that can't be", still.set(), -1);
        due.is("the one before stays", Say.lines(still), "ok|");
        still.measure(11, 1);
        due.is("set() that can be again", still.set(), 0);
    }

    /** One UNIT of each length, with each sign behind it, against each LONG that is near. */
    private static void longestAlone(Due due) {
        String[] behind = {"", "/", ",", ".", "-b"};
        int[] more = {0, 0, 1, 1, 1};
        for (int letters = 9; letters <= 20; letters++) {
            for (int i = 0; i < behind.length; i++) {
                for (int longest = Math.max(10, letters - 1); longest <= letters + 2; longest++) {
                    String text = "a".repeat(letters) + behind[i];
                    Still still = plain(longest, 1, text);
                    boolean can = letters + more[i] <= longest;
                    due.is("LONG " + longest + ", set() of " + text, still.set(), can ? 0 : -1);
                    due.is("LONG " + longest + ", lines() of " + text, still.lines(), can ? 1 : -1);
                    due.is("LONG " + longest + ", signs of " + text, still.line(0, 2), can ? letters + more[i] : -1);
                }
            }
        }
    }

    /** Two WORDS are in one LINE as long as that has LONG signs at most. */
    private static void longestOfTwo(Due due) {
        String[] behind = {"", "/", ",", "."};
        for (int spread = 1; spread <= 3; spread++) {
            for (int i = 0; i < behind.length; i++) {
                for (int letters = 3; letters <= 20; letters++) {
                    Still still = plain(20, spread, "aaaaaaa" + behind[i] + " " + "b".repeat(letters) + behind[i]);
                    int signs = 7 + spread + letters + (i < 2 ? 0 : 2);
                    boolean last = letters + (i < 2 ? 0 : 1) <= 20;
                    due.is("set()", still.set(), last ? 0 : -1);
                    due.is("signs " + signs, still.lines(), !last ? -1 : signs <= 20 ? 1 : 2);
                }
            }
        }
    }

    /** A UNIT that is too long, be it the first, the last or between: there is no SETTING, the one before stays. */
    private static void tooLongAnywhere(Due due) {
        String[] longs = {"abcdefghijk", "abcdefghij,", "abcdefghij-k", "k-abcdefghijk", "k-abcdefghij-l"};
        for (String one : longs) {
            String[] texts = {one, one + " b c", "b c " + one, "b " + one + " c"};
            for (String text : texts) {
                Still still = plain(10, 1, text);
                due.is("set() of " + text, still.set(), -1);
                due.is("lines() of " + text, still.lines(), -1);
                due.is("sign(0, 0) of " + text, still.sign(0, 0), -1);
                still.measure(60, 1);
                due.is("set() of " + text + ", LONG 60", still.set(), 0);
                int lines = still.lines();
                still.mark(0);
                still.measure(10, 1);
                due.is("set() of " + text + ", LONG 10", still.set(), -1);
                due.is("the one before stays", still.lines(), lines);
                due.is("and is of THE TEXT", still.mark(0), 1);
                due.is("SHIFT in it", still.marked(0, 2), 0);
            }
        }
    }

    /** The - is one sign of the LINE; it is there if the WORD goes on below, and else not. */
    private static void joints(Due due) {
        Still still = plain(10, 1, "aaaa-bbbbb-cc d");
        still.set();
        due.is("9 letters and the -", Say.lines(still), "aaaabbbbb-|cc d|");
        due.is("its signs", still.line(0, 2), 10);
        Say.text(still, "aaaa-bbbbbb-c d");
        still.set();
        due.is("10 letters and no room for the -", Say.lines(still), "aaaa-|bbbbbbc d|");
        Say.text(still, "aaaa-bbbbbb d");
        still.set();
        due.is("10 letters and no - behind a WORD", Say.lines(still), "aaaabbbbbb|d|");
        Say.text(still, "aaaa-bbbbb-c");
        still.set();
        due.is("10 letters to the WORD's end", Say.lines(still), "aaaabbbbbc|");
        Say.text(still, "aaaa-bbbbb-c, d");
        still.set();
        due.is("10 letters and a ,", Say.lines(still), "aaaabbbbb-|c, d|");
        Say.text(still, "aaaa-bbbbb-c/ d");
        still.set();
        due.is("10 letters and a /", Say.lines(still), "aaaabbbbbc|d|");
    }

    private static void ties(Due due) {
        Still still = plain(10, 1, "aaa bbb ccc ddd eee");
        still.set();
        due.is("more UNITS first", Say.lines(still), "aaa bbb|ccc ddd|eee|");
        still = plain(10, 1, "aaaa bbbb cccc");
        still.strains(1, 60, 60, 60, 0);
        still.set();
        due.is("the least STRAIN before that", Say.lines(still), "aaaa bbbb|cccc|");
        still = plain(11, 1, "aaa bbb ccc ddd");
        still.strains(0, 0, 0, 0, 7);
        still.like('a', 'd', 1);
        due.is("set()", still.set(), 0);
        due.is("a LIKENESS turns it", Say.lines(still), "aaa bbb|ccc|ddd|");
    }

    private static void tiesInLaterLines(Due due) {
        Still still = plain(10, 1, "aaaaaaaaaa bbb ccc ddd eee");
        still.set();
        due.is("more UNITS in the second LINE", Say.lines(still), "aaaaaaaaaa|bbb ccc|ddd eee|");
        still = plain(10, 1, "aa bb cc dd ee ff");
        still.strains(0, 0, 0, 0, 1);
        due.is("RIVER of the longest LINES", still.set(), 0);
        due.is("the least STRAIN, then more UNITS", Say.lines(still), "aa bb cc|dd|ee ff|");
        still = plain(10, 1, "a-b-c-d-e-f-g-h-i-j-k-l");
        still.set();
        due.is("more UNITS of one WORD", Say.manys(still), "9|3|");
    }

    private static void lastLine(Due due) {
        Still still = Say.with("a");
        due.is("set() of one LINE", still.set(), 0);
        still.strains(100, 10000, 10000, 10000, 1000);
        String[] ends = {"a", "a,", "a/", "a.", "a-b", "a b"};
        for (String text : ends) {
            Say.text(still, text);
            due.is("set() of the one LINE " + text, still.set(), 0);
        }
        still = Say.with("aaaaaaaaaa bbbbbbb");
        still.measure(10, 1);
        still.like('a', 'b', 2);
        due.is("the last LINE has the STRAIN of the two alone", still.set(), 60 + 14);
    }

    private static void ends(Due due) {
        String[] texts = {"aaaaaa. bbbbbb", "aaaaaa, bbbbbb", "aaaaaaa/ bbbbbb", "aaaaaaa bbbbbb", "aaaaaa-bbbbbb"};
        int[] strains = {0, 13, 13, 17, 19};
        for (int i = 0; i < texts.length; i++) {
            Still still = Say.with(texts[i]);
            still.measure(10, 1);
            still.strains(2, 13, 17, 19, 0);
            due.is("set() of " + texts[i], still.set(), 2 * 9 + strains[i]);
        }
    }

    private static void places(Due due) {
        Still still = plain(10, 2, "aa bbb, cc ddd");
        still.strains(0, 0, 50, 0, 3);
        still.like('a', 'c', 1);
        still.like('b', 'd', 10);
        due.is("blanks, letters, and none for a ,", still.set(), 2 + 6 + 30);
        due.is("LINES", Say.lines(still), "aa  bbb,|cc  ddd|");
        still = plain(10, 1, "aaaaaa-bbbbbbb-c");
        still.like('a', 'b', 4);
        still.like('b', 'c', 100);
        due.is("the - has none", still.set(), 24);
        due.is("LINES", Say.lines(still), "aaaaaa-|bbbbbbbc|");
    }

    /** A blank above a letter, a sign above another and what is beyond the shorter LINE have no STRAIN. */
    private static void signsWithoutStrain(Due due) {
        String[] above = {"aaaaaaa, b", "aaaaaaa. b", "aaaa aaaaa", "aaaaaaaaa-", "aaaaaaaaa,"};
        String[] below = {"aaaaaaa, b", "aaaaaaaaaa", "aaaaa aaaa", "aaaaaaaaaa", "aaaaaaaaa."};
        int[] letters = {8, 8, 8, 9, 9};
        int[] blanks = {1, 0, 0, 0, 0};
        for (int i = 0; i < above.length; i++) {
            String text = above[i] + (above[i].endsWith("-") ? "" : " ") + below[i];
            Still still = Say.with(text);
            still.measure(10, 1);
            // Another break would be dearer than all that stands above one another.
            still.strains(100, 0, 0, 0, 7);
            for (int a = 'a'; a <= 'b'; a++) {
                for (int b = 'a'; b <= 'b'; b++) {
                    still.like(a, b, 3);
                }
            }
            due.is("set() of " + text, still.set(), 3 * letters[i] + 7 * blanks[i]);
            due.is("LINES of " + text, Say.lines(still), above[i] + "|" + below[i] + "|");
        }
        Still still = plain(10, 1, "aaaaaaa-aaaaaaa-aaaaaaa");
        still.like('a', 'a', 1);
        due.is("a - above a -", still.set(), 14);
        due.is("LINES", Say.lines(still), "aaaaaaa-|aaaaaaa-|aaaaaaa|");
    }

    /** LINES that are not next to one another have no STRAIN of two. */
    private static void neighboursAlone(Due due) {
        Still still = plain(10, 1, "aaaaaaa bbbbbbb aaaaaaa");
        still.like('a', 'a', 1000);
        due.is("set()", still.set(), 0);
        still.like('a', 'b', 1);
        due.is("set() of both pairs", still.set(), 14);
    }

    private static void emptyAgain(Due due) {
        Still still = Say.with("ab cd");
        still.set();
        still.text();
        due.is("lines() when the SETTING went", still.lines(), -1);
        due.is("set() of an empty TEXT", still.set(), 0);
        due.is("lines() of an empty TEXT", still.lines(), 0);
        due.is("line(0, 0) of an empty TEXT", still.line(0, 0), -1);
        due.is("line(0, 3) of an empty TEXT", still.line(0, 3), -1);
        due.is("line(0, 4) of an empty TEXT", still.line(0, 4), -1);
        due.is("sign(0, 0) of an empty TEXT", still.sign(0, 0), -1);
        Still fresh = new Still();
        due.is("set() of a new object", fresh.set(), 0);
        due.is("lines() of a new object", fresh.lines(), 0);
    }

    private static void asItWasThen(Due due) {
        Still still = plain(10, 3, "ab-cd, ef ghijkl-mno");
        still.set();
        String lines = "abcd,   ef|ghijklmno|";
        due.is("lines", Say.lines(still), lines);
        still.measure(60, 1);
        still.strains(100, 10000, 10000, 10000, 1000);
        still.like('a', 'g', 1000);
        Say.put(still, 2, "xxxx yyyy");
        due.is("lines() then", still.lines(), 2);
        due.is("signs then", Say.lines(still), lines);
        due.is("line(0, 0)", still.line(0, 0), 0);
        due.is("line(0, 1)", still.line(0, 1), 3);
        due.is("line(0, 2)", still.line(0, 2), 10);
        due.is("line(1, 0)", still.line(1, 0), 3);
        due.is("line(1, 1)", still.line(1, 1), 2);
        due.is("line(1, 2)", still.line(1, 2), 9);
    }

    private static void wrongInputs(Due due) {
        Still still = plain(10, 1, "aaaaaa-bbbbbb cc");
        still.set();
        due.is("lines", Say.lines(still), "aaaaaa-|bbbbbb cc|");
        due.is("line(0, 2)", still.line(0, 2), 7);
        due.is("sign(0, 6)", still.sign(0, 6), '-');
        due.is("sign(0, 7)", still.sign(0, 7), -1);
        due.is("sign(1, 6)", still.sign(1, 6), ' ');
        due.is("sign(1, 9)", still.sign(1, 9), -1);
        due.is("sign(0, -1)", still.sign(0, -1), -1);
        due.is("sign(0, MAX)", still.sign(0, Integer.MAX_VALUE), -1);
        due.is("sign(0, MIN)", still.sign(0, Integer.MIN_VALUE), -1);
        int[] outs = {-1, 2, 80, Integer.MIN_VALUE, Integer.MAX_VALUE};
        for (int k : outs) {
            due.is("sign(" + k + ", 0)", still.sign(k, 0), -1);
            for (int what = 0; what < 5; what++) {
                due.is("line(" + k + ", " + what + ")", still.line(k, what), -1);
            }
        }
        int[] others = {-1, 5, Integer.MIN_VALUE, Integer.MAX_VALUE};
        for (int what : others) {
            due.is("line(0, " + what + ")", still.line(0, what), -1);
        }
    }

    /** The widest and the most: 80 UNITS of 20 letters, 80 LINES, 60 UNITS in a LINE, the highest STRAINS. */
    private static void longest(Due due) {
        Still still = Say.with("a");
        String unit = "abcdefghijklmnopqrst. ";
        Say.put(still, 0, unit.repeat(27));
        for (int k = 26; k > 0; k--) {
            Say.put(still, k, unit + unit + (k > 25 ? unit : ""));
        }
        Say.put(still, 0, unit);
        due.is("unit(53, 0)", still.unit(53, 0), 20);
        for (int k = 53; k > 27; k--) {
            Say.put(still, k, unit + unit);
        }
        due.is("unit(79, 0)", still.unit(79, 0), 20);
        due.is("unit(80, 0)", still.unit(80, 0), -1);
        still.measure(60, 3);
        still.strains(100, 10000, 10000, 10000, 1000);
        for (int a = 'a'; a <= 'z'; a++) {
            still.like(a, a, 1000);
        }
        due.is("set() of 1600 letters", still.set(), 39 * (15 * 15 * 100 + 40 * 1000 + 3 * 1000));
        due.is("lines()", still.lines(), 40);
        due.is("sign(39, 44)", still.sign(39, 44), '.');
        still.measure(21, 1);
        due.is("set() of 80 LINES", still.set(), 79 * 20 * 1000);
        due.is("lines()", still.lines(), 80);
        due.is("sign(79, 19)", still.sign(79, 19), 't');
        Say.text(still, "x-".repeat(79) + "y");
        still.measure(60, 1);
        still.strains(1, 0, 0, 0, 0);
        still.like('x', 'x', 0);
        due.is("set() of one long WORD", still.set(), 0);
        due.is("line(0, 1)", still.line(0, 1), 59);
        due.is("line(0, 2)", still.line(0, 2), 60);
        due.is("line(1, 1)", still.line(1, 1), 21);
        Say.text(still, "x-".repeat(59) + "x y");
        due.is("set() of 60 UNITS in a LINE", still.set(), 0);
        due.is("line(0, 1)", still.line(0, 1), 60);
        due.is("line(0, 2)", still.line(0, 2), 60);
        due.is("line(1, 0)", still.line(1, 0), 60);
        Say.text(still, "a ".repeat(79) + "a");
        still.measure(10, 3);
        still.strains(100, 10000, 10000, 10000, 1000);
        still.set();
        due.is("all UNITS are in LINES", unitsInLines(still), 80);
    }

    private static int unitsInLines(Still still) {
        int all = 0;
        for (int k = 0; k < still.lines(); k++) {
            all += still.line(k, 1);
        }
        return all;
    }

    /** Texts by chance: small ones against every SETTING that there is, some larger ones against the best. */
    private static void againstAll(Due due) {
        Chance chance = new Chance(11);
        for (int run = 0; run < 3200; run++) {
            AllSettings all = new AllSettings();
            Still still = new Still();
            chance.measures(still, all);
            String text = chance.text(run < 3000 ? 11 : 80);
            Say.text(still, text);
            all.find(text);
            due.is("run " + run + ", set() of [" + text + "]", still.set(), all.strain());
            if (run < 3000) {
                due.is("run " + run + ", lines of [" + text + "]", Say.lines(still), all.lines());
            } else {
                due.is("run " + run + ", UNITS of [" + text + "]", Say.manys(still), all.manysTold());
            }
        }
    }
}
