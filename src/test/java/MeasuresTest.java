/** Promises 8, 9 and 10: measure, strains and like. */
public final class MeasuresTest {
    private static final int LEAST = Integer.MIN_VALUE;
    private static final int MOST = Integer.MAX_VALUE;

    public static void main(String[] args) {
        Due due = new Due("promises 8, 9, 10");
        measures(due);
        strains(due);
        likeness(due);
        due.finish();
    }

    private static void measures(Due due) {
        StillText still = new StillText();
        int[][] can = {{10, 1}, {60, 1}, {10, 3}, {60, 3}, {33, 2}};
        int[][] cannot = {{9, 1}, {61, 1}, {30, 0}, {30, 4}, {-1, 2}, {LEAST, 1}, {MOST, 1}, {10, LEAST}, {10, MOST}};
        for (int[] m : can) {
            due.is("measure(" + m[0] + ", " + m[1] + ")", still.measure(m[0], m[1]), true);
        }
        for (int[] m : cannot) {
            due.is("measure(" + m[0] + ", " + m[1] + ")", still.measure(m[0], m[1]), false);
        }
        Say.text(still, "aaaaaaaaaa bbbbbbbbbb cccccccccc");
        still.set();
        due.is("neither is changed by a false", Say.lines(still), "aaaaaaaaaa  bbbbbbbbbb|cccccccccc|");
        still.measure(10, 4);
        still.measure(9, 3);
        still.set();
        due.is("nor is one of the two", Say.lines(still), "aaaaaaaaaa  bbbbbbbbbb|cccccccccc|");
        still.measure(36, 3);
        due.is("nothing is set by a true", Say.lines(still), "aaaaaaaaaa  bbbbbbbbbb|cccccccccc|");
        still.set();
        due.is("LONG and SPREAD", Say.lines(still), "aaaaaaaaaa   bbbbbbbbbb   cccccccccc|");
        still.measure(35, 3);
        still.set();
        due.is("one sign too long", still.lines(), 2);
    }

    private static void strains(Due due) {
        StillText still = new StillText();
        int[] highest = {100, 10000, 10000, 10000, 1000};
        due.is("strains of 0", still.strains(0, 0, 0, 0, 0), true);
        due.is("strains of the highest", still.strains(100, 10000, 10000, 10000, 1000), true);
        due.is("other strains", still.strains(2, 3, 50, 7, 11), true);
        for (int i = 0; i < 5; i++) {
            int[] wrong = {-1, LEAST, MOST, highest[i] + 1};
            for (int value : wrong) {
                int[] s = {1, 1, 1, 1, 1};
                s[i] = value;
                due.is("strains with " + value + " at " + i, still.strains(s[0], s[1], s[2], s[3], s[4]), false);
            }
        }
        still.measure(10, 1);
        Say.text(still, "aaaa bbbb cccc dddd");
        due.is("SHORT, INNER, RIVER", still.set(), 2 * 1 + 50 + 11);
        Say.text(still, "aaaaaaa, bbbbbbb/ ccccccc. ddddddd");
        due.is("SHORT, PHRASE", still.set(), 2 * 4 + 3 + 2 * 9 + 3 + 2 * 4);
        Say.text(still, "aaaaaa-bbbbbb");
        due.is("SHORT, CUT", still.set(), 2 * 9 + 7);
        still.strains(0, 10000, 9999, 9998, 1000);
        due.is("CUT", still.set(), 9998);
        Say.text(still, "aaaaaaa, bbbbbbb/ ccccccc. ddddddd");
        due.is("PHRASE", still.set(), 20000);
        Say.text(still, "aaaaaaa bbbbbbb");
        due.is("INNER", still.set(), 9999);
        still.strains(100, 0, 0, 0, 0);
        due.is("SHORT", still.set(), 900);
    }

    private static void likeness(Due due) {
        StillText still = new StillText();
        due.is("like(b, d, 30)", still.like('b', 'd', 30), 0);
        due.is("like(d, b, 40)", still.like('d', 'b', 40), 30);
        due.is("like(b, d, 1000)", still.like('b', 'd', 1000), 40);
        due.is("like(b, d, 0)", still.like('b', 'd', 0), 1000);
        due.is("like(a, z, 1)", still.like('a', 'z', 1), 0);
        due.is("like(z, z, 2)", still.like('z', 'z', 2), 0);
        due.is("like(a, a, 3)", still.like('a', 'a', 3), 0);
        int[] wrong = {'a' - 1, 'z' + 1, 0, ' ', '-', 'A', -1, LEAST, MOST};
        for (int letter : wrong) {
            due.is("like(" + letter + ", a, 5)", still.like(letter, 'a', 5), -1);
            due.is("like(a, " + letter + ", 5)", still.like('a', letter, 5), -1);
        }
        int[] values = {-1, 1001, LEAST, MOST};
        for (int value : values) {
            due.is("like(a, z, " + value + ")", still.like('a', 'z', value), -1);
        }
        due.is("like(z, a, 9)", still.like('z', 'a', 9), 1);
        due.is("like(z, z, 9)", still.like('z', 'z', 9), 2);
        due.is("like(a, a, 0)", still.like('a', 'a', 0), 3);
        still.strains(0, 0, 0, 0, 0);
        still.measure(10, 1);
        Say.text(still, "aaaaaaa zzzzzzz");
        due.is("LIKENESS of each place", still.set(), 7 * 9);
        Say.text(still, "zzzzzzz zzzzzzz");
        due.is("LIKENESS of a letter and itself", still.set(), 7 * 9);
        Say.text(still, "zzzzzzz aaaaa");
        due.is("LIKENESS the other way round", still.set(), 5 * 9);
    }
}
