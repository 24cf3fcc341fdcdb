/** Promise 15: rivers. */
public final class RiversTest {
    public static void main(String[] args) {
        Due due = new Due("promise 15");
        StillText still = new StillText();
        due.is("rivers(1) without a SETTING", still.rivers(1), -1);
        still.set();
        due.is("rivers(1) of an empty TEXT", still.rivers(1), 0);
        lengths(due);
        apart(due);
        againstPlainCount(due);
        due.finish();
    }

    private static StillText set(int spread, String text) {
        StillText still = Say.with(text);
        still.measure(10, spread);
        still.strains(100, 0, 0, 0, 0);
        still.set();
        return still;
    }

    private static void lengths(Due due) {
        StillText still = set(2, "aaaa bbbb ".repeat(5));
        due.is("lines", Say.lines(still), "aaaa  bbbb|".repeat(5));
        int[] found = {2, 2, 2, 2, 0, 0};
        for (int n = 1; n <= 6; n++) {
            due.is("rivers(" + n + ")", still.rivers(n), found[n - 1]);
        }
        int[] wrong = {0, -1, -2, Integer.MIN_VALUE};
        for (int n : wrong) {
            due.is("rivers(" + n + ")", still.rivers(n), -1);
        }
        due.is("rivers(MAX)", still.rivers(Integer.MAX_VALUE), 0);
        Say.put(still, 0, "cc");
        due.is("rivers(4) of the SETTING before", still.rivers(4), 2);
        Say.text(still, "aa");
        due.is("rivers(1) when it went", still.rivers(1), -1);
    }

    private static void apart(Due due) {
        StillText still = set(1, "aaaa bbbbb aaaa bbbbb aaaaaaaaaa aaaa bbbbb aaaa bbbbb aaaa bbbbb");
        due.is("lines", Say.lines(still),
                "aaaa bbbbb|aaaa bbbbb|aaaaaaaaaa|aaaa bbbbb|aaaa bbbbb|aaaa bbbbb|");
        due.is("rivers(1), two rows at one place", still.rivers(1), 2);
        due.is("rivers(2)", still.rivers(2), 1);
        due.is("rivers(3)", still.rivers(3), 0);
        still = set(3, "aa bbbbb aaa bbbb aaaa bbb");
        due.is("lines", Say.lines(still), "aa   bbbbb|aaa   bbbb|aaaa   bbb|");
        due.is("rivers(1), places 3, 4, 5", still.rivers(1), 3);
        due.is("rivers(2), place 4", still.rivers(2), 1);
        still = set(1, "aaaaaaaaa aaaa bbbbb aaaaaaaaaa b aaaa-aaaaa b c");
        due.is("what is behind a LINE's end is no blank", still.rivers(1), plainCount(still, 1));
    }

    private static void againstPlainCount(Due due) {
        Chance chance = new Chance(15);
        for (int run = 0; run < 300; run++) {
            StillText still = Say.with(chance.text(60));
            still.measure(12 + chance.below(20), 1 + chance.below(3));
            still.strains(chance.below(2), 0, 0, 0, 0);
            still.set();
            for (int n = 1; n < 5; n++) {
                due.is("run " + run + ", rivers(" + n + ")", still.rivers(n), plainCount(still, n));
            }
        }
    }

    private static int plainCount(StillText still, int n) {
        String[] lines = Say.lines(still).split("\\|");
        int found = 0;
        for (int place = 0; place < 60; place++) {
            StringBuilder column = new StringBuilder();
            for (String line : lines) {
                column.append(place < line.length() ? line.charAt(place) : '?');
            }
            for (String row : column.toString().split("[^ ]+")) {
                found += row.length() > n ? 1 : 0;
            }
        }
        return found;
    }
}
