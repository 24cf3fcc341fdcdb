/** Promise 15: rivers. */
public final class RiversTest {
    public static void main(String[] args) {
        Due due = new Due("promise 15");
        withoutSetting(due);
        lengths(due);
        everyLength(due);
        apart(due);
        edgesOfLines(due);
        againstPlainCount(due);
        due.finish();
    }

    private static Still set(int spread, String text) {
        Still still = Say.with(text);
        still.measure(10, spread);
        still.strains(100, 0, 0, 0, 0);
        still.set();
        return still;
    }

    private static void withoutSetting(Due due) {
        int[] all = {-1, 0, 1, 2, Integer.MIN_VALUE, Integer.MAX_VALUE};
        Still still = new Still();
        for (int n : all) {
            due.is("rivers(" + n + ") of a new object", still.rivers(n), -1);
        }
        Say.text(still, "aaaa bbbb");
        due.is("rivers(1) ahead of set()", still.rivers(1), -1);
        still.end(0);
        still.text();
        still.set();
        for (int n : all) {
            due.is("rivers(" + n + ") of an empty TEXT", still.rivers(n), n < 1 ? -1 : 0);
        }
        due.is("rivers(1) of one LINE", set(3, "aa bb").rivers(1), 0);
    }

    private static void lengths(Due due) {
        Still still = set(2, "aaaa bbbb ".repeat(5));
        due.is("lines", Say.lines(still), "aaaa  bbbb|".repeat(5));
        int[] found = {2, 2, 2, 2, 0, 0};
        for (int n = 1; n <= 6; n++) {
            due.is("rivers(" + n + ")", still.rivers(n), found[n - 1]);
        }
        int[] wrong = {0, -1, -2, Integer.MIN_VALUE};
        for (int n : wrong) {
            due.is("rivers(" + n + ")", still.rivers(n), -1);
        }
        due.is("rivers(MAX)", still.rivers(Integer.MAX_VALUE), 0);
        Say.put(still, 0, "cc");
        due.is("rivers(4) of the SETTING before", still.rivers(4), 2);
        due.is("rivers(5) of the SETTING before", still.rivers(5), 0);
        Say.text(still, "aa");
        due.is("rivers(1) when it went", still.rivers(1), -1);
    }

    /** A row of m blanks is one of more than m - 1, and none of more than m. */
    private static void everyLength(Due due) {
        for (int lines = 1; lines <= 40; lines++) {
            Still still = set(1, "aaaa bbbbb ".repeat(lines));
            due.is("lines()", still.lines(), lines);
            for (int n = 1; n <= 41; n++) {
                due.is(lines + " LINES, rivers(" + n + ")", still.rivers(n), lines > n ? 1 : 0);
            }
        }
    }

    private static void apart(Due due) {
        Still still = set(1, "aaaa bbbbb aaaa bbbbb aaaaaaaaaa aaaa bbbbb aaaa bbbbb aaaa bbbbb");
        due.is("lines", Say.lines(still),
                "aaaa bbbbb|aaaa bbbbb|aaaaaaaaaa|aaaa bbbbb|aaaa bbbbb|aaaa bbbbb|");
        due.is("rivers(1), two rows at one place", still.rivers(1), 2);
        due.is("rivers(2)", still.rivers(2), 1);
        due.is("rivers(3)", still.rivers(3), 0);
        still = set(3, "aa bbbbb aaa bbbb aaaa bbb");
        due.is("lines", Say.lines(still), "aa   bbbbb|aaa   bbbb|aaaa   bbb|");
        due.is("rivers(1), places 3, 4, 5", still.rivers(1), 3);
        due.is("rivers(2), place 4", still.rivers(2), 1);
    }

    /** What is behind a LINE's end is no blank; a blank may stand at any place but the first and the last. */
    private static void edgesOfLines(Due due) {
        Still still = Say.with("aaaaaaaa b aaaaaa. aaaaaaaa b");
        still.measure(10, 1);
        still.strains(0, 0, 0, 0, 0);
        still.set();
        due.is("lines", Say.lines(still), "aaaaaaaa b|aaaaaa.|aaaaaaaa b|");
        due.is("rivers(1), a short LINE between", still.rivers(1), 0);
        still = set(1, "a bbbbbbbb a bbbbbbbb");
        due.is("lines", Say.lines(still), "a bbbbbbbb|a bbbbbbbb|");
        due.is("rivers(1), place 1", still.rivers(1), 1);
        String end = "aaaaaaaaaaaaaaaaaaaa-aaaaaaaaaaaaaaaaaaaa-aaaaaaaaaaaaaaaaaa b ";
        still = Say.with(end + end);
        still.measure(60, 1);
        still.set();
        due.is("lines()", still.lines(), 2);
        due.is("sign(0, 58)", still.sign(0, 58), ' ');
        due.is("sign(1, 59)", still.sign(1, 59), 'b');
        due.is("rivers(1), place 58", still.rivers(1), 1);
    }

    private static void againstPlainCount(Due due) {
        Chance chance = new Chance(15);
        for (int run = 0; run < 400; run++) {
            Still still = Say.with(chance.text(24));
            still.measure(12 + chance.below(20), 1 + chance.below(3));
            still.strains(chance.below(2), 0, 0, 0, 0);
            still.set();
            String[] lines = Say.lines(still).split("\\|");
            for (int n = 1; n < 5; n++) {
                due.is("run " + run + ", rivers(" + n + ")", still.rivers(n), plainCount(lines, n));
            }
        }
    }

    private static int plainCount(String[] lines, int n) {
        int found = 0;
        for (int place = 0; place < 60; place++) {
            StringBuilder column = new StringBuilder();
            for (String line : lines) {
                column.append(place < line.length() ? line.charAt(place) : '?');
            }
            for (String row : column.toString().split("[^ ]+")) {
                found += row.length() > n ? 1 : 0;
            }
        }
        return found;
    }
}
