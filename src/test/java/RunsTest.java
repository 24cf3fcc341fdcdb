/** Long runs of calls by chance, ordinary and wrong ones, each answer against the plain model. */
public final class RunsTest {
    private static final int CALLS = 512;
    private static final int[] ODD = {-1, 0, 1, 2, 3, 4, 5, 9, 10, 20, 40, 60, 61, 79, 80, 81, 97, 122, 123, 600, 601,
        1000, 1001, 10000, 10001, Integer.MAX_VALUE, Integer.MIN_VALUE, Integer.MAX_VALUE - 1, -1000};

    private final Due due;
    private final Chance chance;
    private final Still still = new Still();
    private final Model model = new Model();
    private final int run;
    private int calls;

    private RunsTest(Due due, int run) {
        this.due = due;
        this.run = run;
        this.chance = new Chance(1000 + run);
    }

    public static void main(String[] args) {
        Due due = new Due("all promises, runs");
        for (int run = 0; run < 300; run++) {
            new RunsTest(due, run).play();
        }
        due.finish();
    }

    private void play() {
        int most = 1 + chance.below(chance.once(3) ? 80 : 14);
        boolean reader = chance.once(4);
        while (calls < CALLS - 40) {
            int kind = chance.below(reader ? 60 : 30);
            if (kind >= 30) {
                answer();
            } else if (kind < 4) {
                feedText(most);
                same("text()", still.text(), model.text());
            } else if (kind < 10) {
                feedText(chance.once(2) ? 3 : most);
                int k = number(most);
                same("put(" + k + ")", still.put(k), model.put(k));
            } else if (kind < 16) {
                same("set()", still.set(), model.set());
            } else if (kind < 19) {
                change();
            } else if (kind < 22) {
                int k = number(most);
                same("mark(" + k + ")", still.mark(k), model.mark(k));
            } else {
                ask(most);
            }
        }
    }

    private void same(String call, int got, int want) {
        calls++;
        due.is("run " + run + ", call " + calls + ": " + call, got, want);
    }

    private void same(String call, boolean got, boolean want) {
        same(call, got ? 1 : 0, want ? 1 : 0);
    }

    private int number(int most) {
        return chance.once(8) ? ODD[chance.below(ODD.length)] : chance.below(most + 1);
    }

    /** A TEXT, one time in three with a byte that was changed, in one time in nine cut short. */
    private void feedText(int most) {
        StringBuilder text = new StringBuilder(chance.text(most));
        if (text.length() > 0 && chance.once(3)) {
            String bytes = "a- ,./\nA-zz-\u00e1\0";
            text.setCharAt(chance.below(text.length()), bytes.charAt(chance.below(bytes.length())));
        }
        if (chance.once(9)) {
            text.setLength(chance.below(text.length() + 1));
        }
        if (chance.once(15)) {
            text.insert(chance.below(text.length() + 1), "m".repeat(19 + chance.below(3)));
        }
        String all = text.toString();
        int length = Math.min(all.length(), 600);
        int before = model.feed();
        int[] five = new int[5];
        for (int from = 0; from < length; from += 20) {
            for (int i = 0; i < 5; i++) {
                five[i] = numberAt(all, from + 4 * i);
            }
            same("feed", still.feed(five[0], five[1], five[2], five[3], five[4]), model.feed(five));
        }
        int n = chance.once(20) ? ODD[chance.below(ODD.length)] : Math.max(before, 0) + length;
        same("end(" + n + ")", still.end(n), model.end(n));
    }

    private static int numberAt(String text, int from) {
        int number = 0;
        for (int i = from; i < from + 4; i++) {
            number = number << 8 | (i < text.length() ? text.charAt(i) : ' ');
        }
        return number;
    }

    private void change() {
        int a = number(60);
        int b = 1 + number(3);
        int c = number(100);
        int d = number(100);
        int e = number(50);
        switch (chance.below(5)) {
            case 0:
                same("measure(" + a + ", " + b + ")", still.measure(a, b), model.measure(a, b));
                break;
            case 1:
                same("strains", still.strains(b, a, c, d, e), model.strains(b, a, c, d, e));
                break;
            case 2:
                same("page(" + b + ", " + (b + 1) + ")", still.page(b, b + 1), model.page(b, b + 1));
                break;
            case 3:
                same("page(" + a + ", " + e + ")", still.page(a, e), model.page(a, e));
                break;
            default:
                int one = chance.once(9) ? a : 97 + chance.below(26);
                int two = chance.once(9) ? b : 97 + chance.below(16);
                same("like", still.like(one, two, c), model.like(one, two, c));
                break;
        }
    }

    private void answer() {
        int i = number(10);
        int j = number(2);
        int lead = 1 + number(3);
        boolean best = !chance.once(3);
        switch (chance.below(40)) {
            case 0:
                same("test(" + i + ", " + j + ", " + lead + ")", still.test(i, j, lead), model.test(i, j, lead));
                break;
            case 1:
            case 2:
                same("use()", still.use(), model.use());
                break;
            case 3:
            case 4:
            case 5:
                int what = number(6);
                same("tested(" + what + ")", still.tested(what), model.tested(what));
                break;
            default:
                same("answer(" + best + ")", still.answer(best), model.answer(best));
                break;
        }
    }

    private void ask(int most) {
        int k = number(most);
        int what = number(5);
        switch (chance.below(7)) {
            case 0:
                same("fault(" + what + ")", still.fault(what % 3), model.fault(what % 3));
                break;
            case 1:
                same("unit(" + k + ", " + what + ")", still.unit(k, what), model.unit(k, what));
                break;
            case 2:
                same("lines()", still.lines(), model.lines());
                break;
            case 3:
                same("line(" + k + ", " + what + ")", still.line(k, what), model.line(k, what));
                break;
            case 4:
                int i = number(30);
                same("sign(" + k + ", " + i + ")", still.sign(k, i), model.sign(k, i));
                break;
            case 5:
                same("rivers(" + what + ")", still.rivers(what), model.rivers(what));
                break;
            default:
                same("marked(" + k + ", " + what + ")", still.marked(k, what), model.marked(k, what));
                break;
        }
    }
}
