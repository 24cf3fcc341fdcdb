/** Promises 8, 9 and 10: measure, strains and like. */
public final class MeasuresTest {
    private static final int LEAST = Integer.MIN_VALUE;
    private static final int MOST = Integer.MAX_VALUE;
    private static final int[] HIGHEST = {100, 10000, 10000, 10000, 1000};

    public static void main(String[] args) {
        Due due = new Due("promises 8, 9, 10");
        everyMeasure(due);
        refusedMeasures(due);
        measureAndSetting(due);
        strainsBounds(due);
        eachStrainAtItsBounds(due);
        strains(due);
        likeness(due);
        everyLetter(due);
        likenessBounds(due);
        due.finish();
    }

    /** LONG by a WORD that can be cut everywhere, SPREAD by two WORDS in one LINE. */
    static String measured(Still still) {
        still.strains(0, 0, 0, 0, 0);
        Say.text(still, "x-".repeat(79) + "x");
        still.set();
        int longest = still.line(0, 2);
        Say.text(still, "x y");
        still.set();
        return longest + ", " + (still.line(0, 2) - 2);
    }

    private static void everyMeasure(Due due) {
        due.is("LONG and SPREAD at first", measured(new Still()), "30, 1");
        for (int longest = 8; longest <= 62; longest++) {
            for (int spread = -1; spread <= 5; spread++) {
                boolean can = longest >= 10 && longest <= 60 && spread >= 1 && spread <= 3;
                Still still = new Still();
                String call = "measure(" + longest + ", " + spread + ")";
                due.is(call, still.measure(longest, spread), can);
                due.is("behind " + call, measured(still), can ? longest + ", " + spread : "30, 1");
            }
        }
    }

    private static void refusedMeasures(Due due) {
        int[][] cannot = {{9, 2}, {61, 2}, {33, 0}, {33, 4}, {-1, 2}, {LEAST, 1}, {MOST, 1}, {10, LEAST}, {10, MOST},
            {9, 0}, {61, 4}, {0, 0}, {2, 33}};
        for (int[] m : cannot) {
            Still still = new Still();
            still.measure(33, 2);
            due.is("measure(" + m[0] + ", " + m[1] + ")", still.measure(m[0], m[1]), false);
            due.is("neither is changed by a false", measured(still), "33, 2");
        }
    }

    private static void measureAndSetting(Due due) {
        Still still = Say.with("aaaaaaaaaa bbbbbbbbbb cccccccccc");
        still.measure(33, 2);
        still.set();
        due.is("LONG and SPREAD", Say.lines(still), "aaaaaaaaaa  bbbbbbbbbb|cccccccccc|");
        still.measure(36, 3);
        due.is("nothing is set by a true", Say.lines(still), "aaaaaaaaaa  bbbbbbbbbb|cccccccccc|");
        still.set();
        due.is("LONG signs are not too many", Say.lines(still), "aaaaaaaaaa   bbbbbbbbbb   cccccccccc|");
        still.measure(35, 3);
        still.set();
        due.is("one sign too long", still.lines(), 2);
    }

    private static boolean strains(Still still, int[] s) {
        return still.strains(s[0], s[1], s[2], s[3], s[4]);
    }

    private static void strainsBounds(Due due) {
        Still still = new Still();
        due.is("strains of 0", still.strains(0, 0, 0, 0, 0), true);
        due.is("strains of the highest", strains(still, HIGHEST), true);
        for (int i = 0; i < 5; i++) {
            int[] can = {0, 1, HIGHEST[i] - 1, HIGHEST[i]};
            for (int value : can) {
                int[] s = {1, 1, 1, 1, 1};
                s[i] = value;
                due.is("strains with " + value + " at " + i, strains(still, s), true);
            }
            int[] cannot = {-1, LEAST, MOST, HIGHEST[i] + 1};
            for (int value : cannot) {
                int[] s = {1, 1, 1, 1, 1};
                s[i] = value;
                Still other = new Still();
                other.strains(2, 3, 50, 7, 11);
                due.is("strains with " + value + " at " + i, strains(other, s), false);
                due.is("none is changed by a false", told(other), "2, 3, 3, 50, 7, 11");
            }
        }
        due.is("at first", told(new Still()), "1, 20, 20, 60, 100, 5");
    }

    /** SHORT, PHRASE (behind , and behind /), INNER, CUT and RIVER, each by texts of two LINES of ten signs. */
    static String told(Still still) {
        still.measure(10, 1);
        int phrase = strainOf(still, "abcdefghi, zzzzz");
        int silent = strainOf(still, "abcdefghij/ zzzzz");
        int inner = strainOf(still, "abcdefghij zzzzz");
        int cut = strainOf(still, "abcdefghi-zzzzz");
        int shortest = strainOf(still, "abcdefgh. zzzzz");
        int river = strainOf(still, "abcd efgh. vwxy zzzz.");
        return shortest + ", " + phrase + ", " + silent + ", " + inner + ", " + cut + ", " + river;
    }

    private static int strainOf(Still still, String text) {
        Say.text(still, text);
        return still.set();
    }

    /** The least and the highest that can be are what counts then. */
    private static void eachStrainAtItsBounds(Due due) {
        for (int i = 0; i < 5; i++) {
            int[] values = {0, HIGHEST[i]};
            for (int value : values) {
                // A RIVER of 1000 is still less than another break.
                int[] s = {50, 20, 30, 40, 5};
                s[i] = value;
                Still still = new Still();
                strains(still, s);
                due.is("strains with " + value + " at " + i, told(still),
                        s[0] + ", " + s[1] + ", " + s[1] + ", " + s[2] + ", " + s[3] + ", " + s[4]);
            }
        }
    }

    private static void strains(Due due) {
        Still still = new Still();
        still.strains(2, 3, 50, 7, 11);
        still.measure(10, 1);
        Say.text(still, "aaaa bbbb cccc dddd");
        due.is("SHORT, INNER, RIVER", still.set(), 2 * 1 + 50 + 11);
        Say.text(still, "aaaaaaa, bbbbbbb/ ccccccc. ddddddd");
        due.is("SHORT, PHRASE", still.set(), 2 * 4 + 3 + 2 * 9 + 3 + 2 * 4);
        Say.text(still, "aaaaaa-bbbbbb");
        due.is("SHORT, CUT", still.set(), 2 * 9 + 7);
        still.strains(0, 10000, 9999, 9998, 1000);
        due.is("CUT", still.set(), 9998);
        Say.text(still, "aaaaaaa, bbbbbbb/ ccccccc. ddddddd");
        due.is("PHRASE", still.set(), 20000);
        Say.text(still, "aaaaaaa bbbbbbb");
        due.is("INNER", still.set(), 9999);
        still.strains(100, 0, 0, 0, 0);
        due.is("SHORT", still.set(), 900);
    }

    private static void likeness(Due due) {
        Still still = new Still();
        due.is("like(b, d, 30)", still.like('b', 'd', 30), 0);
        due.is("like(d, b, 40)", still.like('d', 'b', 40), 30);
        due.is("like(b, d, 1000)", still.like('b', 'd', 1000), 40);
        due.is("like(b, d, 0)", still.like('b', 'd', 0), 1000);
        due.is("like(a, z, 9)", still.like('a', 'z', 9), 0);
        due.is("like(z, z, 8)", still.like('z', 'z', 8), 0);
        due.is("like(a, a, 3)", still.like('a', 'a', 3), 0);
        still.strains(0, 0, 0, 0, 0);
        still.measure(10, 1);
        due.is("LIKENESS of each place", strainOf(still, "aaaaaaa zzzzzzz"), 7 * 9);
        due.is("LIKENESS of a letter and itself", strainOf(still, "zzzzzzz zzzzzzz"), 7 * 8);
        due.is("LIKENESS the other way round", strainOf(still, "zzzzzzz aaaaa"), 5 * 9);
        due.is("like of the highest", still.like('z', 'a', 1000), 9);
        due.is("the highest", strainOf(still, "aaaaaaa zzzzzzz"), 7 * 1000);
        due.is("like of 0", still.like('a', 'z', 0), 1000);
        due.is("0", strainOf(still, "aaaaaaa zzzzzzz"), 0);
    }

    /** All pairs have a LIKENESS of their own: 351 of them, those of one letter and each other in one object. */
    private static void everyLetter(Due due) {
        for (int a = 'a'; a <= 'z'; a++) {
            Still still = new Still();
            for (int b = 'a'; b <= 'z'; b++) {
                due.is("like at first", still.like(a, b, b - 96), 0);
            }
            for (int b = 'a'; b <= 'z'; b++) {
                due.is("like(" + b + ", " + a + ", 500)", still.like(b, a, 500), b - 96);
            }
            for (int b = 'a'; b <= 'z'; b++) {
                int other = a == 'z' ? 'y' : a + 1;
                boolean both = b == a;
                due.is("like(" + other + ", " + b + ", 0)", still.like(other, b, 0), both ? 500 : 0);
            }
        }
    }

    private static void likenessBounds(Due due) {
        Still still = new Still();
        still.like('a', 'z', 7);
        still.like('a', 'a', 8);
        still.like('z', 'z', 9);
        int[] wrong = {'a' - 1, 'z' + 1, 0, 1, 25, 26, ' ', '-', 'A', 'Z', 'a' + 256, 'z' - 256, -1, LEAST, MOST};
        for (int letter : wrong) {
            due.is("like(" + letter + ", a, 5)", still.like(letter, 'a', 5), -1);
            due.is("like(a, " + letter + ", 5)", still.like('a', letter, 5), -1);
            due.is("like(z, " + letter + ", 5)", still.like('z', letter, 5), -1);
            due.is("like(" + letter + ", itself, 5)", still.like(letter, letter, 5), -1);
        }
        int[] values = {-1, 1001, LEAST, MOST};
        for (int value : values) {
            due.is("like(a, z, " + value + ")", still.like('a', 'z', value), -1);
            due.is("like(z, a, " + value + ")", still.like('z', 'a', value), -1);
            due.is("like(a, a, " + value + ")", still.like('a', 'a', value), -1);
        }
        due.is("like(z, a, 1000)", still.like('z', 'a', 1000), 7);
        due.is("like(a, z, 0)", still.like('a', 'z', 0), 1000);
        due.is("like(a, a, 1)", still.like('a', 'a', 1), 8);
        due.is("like(z, z, 999)", still.like('z', 'z', 999), 9);
        due.is("like(z, z, 0)", still.like('z', 'z', 0), 999);
        for (int b = 'b'; b < 'z'; b++) {
            due.is("like(a, " + b + ", 0)", still.like('a', b, 0), 0);
            due.is("like(z, " + b + ", 0)", still.like('z', b, 0), 0);
        }
    }
}
