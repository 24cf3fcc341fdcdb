import java.util.function.Consumer;
import java.util.function.Function;
import java.util.function.ToIntFunction;

/**
 * Refused calls, on objects in several states: what they answer, and that they change nothing that the document
 * does not name. Of two objects with the same calls one hears the refused call, too; then both are asked the same.
 */
public final class RefusedTest {
    private static final int LEAST = Integer.MIN_VALUE;
    private static final int MOST = Integer.MAX_VALUE;

    private final Due due;
    private final String state;
    private final Consumer<Still> calls;

    private RefusedTest(Due due, String state, Consumer<Still> calls) {
        this.due = due;
        this.state = state;
        this.calls = calls;
    }

    public static void main(String[] args) {
        Due due = new Due("refused calls");
        ofNewObject(new RefusedTest(due, "new", still -> { }));
        ofTextAlone(new RefusedTest(due, "a TEXT alone", RefusedTest::textAlone));
        ofSetting(new RefusedTest(due, "a SETTING", RefusedTest::setting));
        ofOldSetting(new RefusedTest(due, "a SETTING of another TEXT", RefusedTest::oldSetting));
        ofTooLong(new RefusedTest(due, "a UNIT too long", RefusedTest::tooLong));
        ofFull(new RefusedTest(due, "all is full", RefusedTest::full));
        ofEmptySetting(new RefusedTest(due, "an empty SETTING", Still::set));
        due.finish();
    }

    // ---- states

    private static void textAlone(Still still) {
        Say.text(still, "ab-cd, ef gh. ij/ kl mn");
        still.measure(14, 3);
        Say.more(still, 0, "pq r?");
    }

    private static void setting(Still still) {
        Say.text(still, "ab-cd, ef gh. ij/ kl mn");
        still.measure(12, 2);
        still.strains(3, 21, 33, 47, 6);
        still.like('a', 'e', 9);
        still.like('k', 'k', 11);
        still.page(2, 4);
        still.set();
        still.mark(0);
        still.mark(3);
        still.mark(6);
        still.test(4, 1, 3);
        still.answer(true);
        still.answer(false);
        still.answer(false);
        Say.more(still, 0, "pq r");
    }

    private static void oldSetting(Still still) {
        setting(still);
        Say.put(still, 2, "uu vv-w.");
        Say.text(still, "xyz?");
        Say.more(still, 0, "pq r");
    }

    private static void tooLong(Still still) {
        setting(still);
        Say.put(still, 3, "abcdefghijklmnopq");
        still.measure(18, 1);
        still.set();
        still.measure(16, 1);
        Say.more(still, 0, "pq");
    }

    private static void full(Still still) {
        Say.text(still, "a b-".repeat(39) + "c d");
        still.page(2, 7);
        still.set();
        for (int m = 0; m < 20; m++) {
            still.mark(4 * m);
        }
        still.test(10, 2, 1);
        still.answer(true);
        still.answer(true);
        Say.more(still, 0, " ".repeat(597) + "x y");
    }

    // ---- the refused calls

    private static void ofNewObject(RefusedTest test) {
        test.everywhere();
        test.noSetting();
        test.noTests();
        test.nothing("unit(0, 0)", still -> still.unit(0, 0), -1);
        test.nothing("marked(0, 0)", still -> still.marked(0, 0), -1);
        test.nothing("end(1)", still -> told(still.end(1)), 0);
        test.tapeGoes("put(0)", still -> still.put(0), -1);
    }

    private static void ofTextAlone(RefusedTest test) {
        test.everywhere();
        test.noSetting();
        test.noTests();
        test.nothing("end(6)", still -> told(still.end(6)), 0);
        test.faultIsTold("text()", still -> still.text(), -1);
        test.tapeGoes("put(0)", still -> still.put(0), -1);
        test.faultIsTold("put(2)", still -> still.put(2), -2);
    }

    private static void ofSetting(RefusedTest test) {
        test.everywhere();
        test.nothing("end(5)", still -> told(still.end(5)), 0);
        test.nothing("unit(7, 0)", still -> still.unit(7, 0), -1);
        test.nothing("mark(7)", still -> still.mark(7), -1);
        test.nothing("marked(3, 0)", still -> still.marked(3, 0), -1);
        test.tapeGoes("put(0)", still -> still.put(0), -1);
        test.tapeGoes("put(1)", still -> still.put(1), -1);
        test.tapeGoes("put(7)", still -> still.put(7), -1);
        test.faultIsTold("put(2) of [?]", still -> Say.put(still, 2, "?"), -2);
        test.faultIsTold("put(2) of [x-]", still -> Say.put(still, 2, "x-"), -2);
        test.faultIsTold("put(2) of []", still -> Say.put(still, 2, ""), -2);
        test.faultIsTold("put(2) of 75", still -> Say.put(still, 2, "a ".repeat(75)), -2);
        test.faultIsTold("text() of [-]", still -> Say.text(still, "-"), -1);
        test.faultIsTold("text() of 21 letters", still -> Say.text(still, "abcdefghijklmnopqrstu"), -1);
        test.faultIsTold("text() of 81 UNITS", still -> Say.text(still, "a ".repeat(81)), -1);
    }

    private static void ofOldSetting(RefusedTest test) {
        test.everywhere();
        test.nothing("mark(0)", still -> still.mark(0), -1);
        test.nothing("mark(8)", still -> still.mark(8), -1);
        test.nothing("marked(0, 2)", still -> still.marked(0, 2), -1000);
        test.tapeGoes("put(3)", still -> still.put(3), -1);
        test.tapeGoes("put(9)", still -> still.put(9), -1);
        test.faultIsTold("put(2) of [?]", still -> Say.put(still, 2, "?"), -2);
        test.faultIsTold("text() of [?]", still -> Say.text(still, "?"), -1);
    }

    private static void ofTooLong(RefusedTest test) {
        test.everywhere();
        test.nothing("set()", still -> still.set(), -1);
        test.nothing("mark(-1)", still -> still.mark(-1), -1);
    }

    private static void ofFull(RefusedTest test) {
        test.everywhere();
        test.nothing("feed", still -> still.feed(0x61616161, 0x61616161, 0x61616161, 0, 0), -1);
        test.nothing("mark(0)", still -> still.mark(0), -1);
        test.nothing("mark(79)", still -> still.mark(79), -1);
        test.nothing("answer(true)", still -> still.answer(true), -1);
        test.nothing("answer(false)", still -> still.answer(false), -1);
        test.nothing("end(601)", still -> told(still.end(601)), 0);
        test.faultIsTold("put(0)", still -> still.put(0), -2);
        test.faultIsTold("put(79)", still -> still.put(79), -2);
        test.tapeGoes("put(1)", still -> still.put(1), -1);
    }

    private static void ofEmptySetting(RefusedTest test) {
        test.everywhere();
        test.noTests();
        test.nothing("line(0, 0)", still -> still.line(0, 0), -1);
        test.nothing("sign(0, 0)", still -> still.sign(0, 0), -1);
        test.nothing("mark(0)", still -> still.mark(0), -1);
        test.tapeGoes("put(0)", still -> still.put(0), -1);
    }

    private void everywhere() {
        wrongEnds();
        wrongMeasures();
        wrongTests();
        wrongQuestions();
        int[] ks = {-1, 80, LEAST, MOST};
        for (int k : ks) {
            nothing("mark(" + k + ")", still -> still.mark(k), -1);
            tapeGoes("put(" + k + ")", still -> still.put(k), -1);
        }
    }

    private void noSetting() {
        nothing("lines()", still -> still.lines(), -1);
        nothing("line(0, 0)", still -> still.line(0, 0), -1);
        nothing("sign(0, 0)", still -> still.sign(0, 0), -1);
        nothing("rivers(1)", still -> still.rivers(1), -1);
        nothing("mark(0)", still -> still.mark(0), -1);
    }

    private void noTests() {
        for (int what = 0; what < 6; what++) {
            int asked = what;
            nothing("tested(" + what + ")", still -> still.tested(asked), -1);
        }
        nothing("answer(true)", still -> still.answer(true), -1);
        nothing("answer(false)", still -> still.answer(false), -1);
        nothing("use()", still -> told(still.use()), 0);
    }

    private void wrongEnds() {
        int[] ends = {-1, 601, LEAST, MOST};
        for (int n : ends) {
            nothing("end(" + n + ")", still -> told(still.end(n)), 0);
        }
    }

    private void wrongMeasures() {
        int[][] measures = {{9, 1}, {61, 1}, {10, 0}, {10, 4}, {60, MOST}, {LEAST, 3}};
        for (int[] m : measures) {
            nothing("measure(" + m[0] + ", " + m[1] + ")", still -> told(still.measure(m[0], m[1])), 0);
        }
        int[] highest = {100, 10000, 10000, 10000, 1000};
        for (int i = 0; i < 5; i++) {
            int[] low = {7, 7, 7, 7, 7};
            int[] high = {7, 7, 7, 7, 7};
            low[i] = -1;
            high[i] = highest[i] + 1;
            nothing("strains, too low at " + i,
                    still -> told(still.strains(low[0], low[1], low[2], low[3], low[4])), 0);
            nothing("strains, too high at " + i,
                    still -> told(still.strains(high[0], high[1], high[2], high[3], high[4])), 0);
        }
        int[][] likes = {{'a' - 1, 'e', 5}, {'a', 'z' + 1, 5}, {'a', 'e', -1}, {'e', 'a', 1001}, {'k', 'k', 1001}};
        for (int[] l : likes) {
            nothing("like(" + l[0] + ", " + l[1] + ", " + l[2] + ")", still -> still.like(l[0], l[1], l[2]), -1);
        }
        int[][] pages = {{1, 5}, {41, 5}, {5, 1}, {5, 8}};
        for (int[] p : pages) {
            nothing("page(" + p[0] + ", " + p[1] + ")", still -> told(still.page(p[0], p[1])), 0);
        }
    }

    private void wrongTests() {
        int[][] tests = {{-1, 0, 1}, {11, 0, 1}, {0, -1, 1}, {0, 3, 1}, {0, 0, 0}, {0, 0, 10}};
        for (int[] t : tests) {
            nothing("test(" + t[0] + ", " + t[1] + ", " + t[2] + ")", still -> told(still.test(t[0], t[1], t[2])), 0);
        }
        nothing("tested(-1)", still -> still.tested(-1), -1);
        nothing("tested(6)", still -> still.tested(6), -1);
    }

    private void wrongQuestions() {
        nothing("fault(-1)", still -> still.fault(-1), -1);
        nothing("fault(2)", still -> still.fault(2), -1);
        nothing("rivers(0)", still -> still.rivers(0), -1);
        nothing("rivers(-1)", still -> still.rivers(-1), -1);
        int[][] places = {{-1, 0}, {80, 0}, {0, -1}, {MOST, MOST}, {LEAST, LEAST}};
        for (int[] p : places) {
            nothing("unit(" + p[0] + ", " + p[1] + ")", still -> still.unit(p[0], p[1]), -1);
            nothing("line(" + p[0] + ", " + p[1] + ")", still -> still.line(p[0], p[1]), -1);
            nothing("sign(" + p[0] + ", " + p[1] + ")", still -> still.sign(p[0], p[1]), -1);
            nothing("marked(" + p[0] + ", " + p[1] + ")", still -> still.marked(p[0], p[1]), -1);
        }
        nothing("unit(0, 3)", still -> still.unit(0, 3), -1);
        nothing("line(0, 5)", still -> still.line(0, 5), -1);
        nothing("sign(0, 60)", still -> still.sign(0, 60), -1);
        nothing("marked(0, 3)", still -> still.marked(0, 3), -1);
        nothing("marked(20, 0)", still -> still.marked(20, 0), -1);
    }

    private static int told(boolean answer) {
        return answer ? 1 : 0;
    }

    // ---- what a refused call changes

    private void nothing(String call, ToIntFunction<Still> refused, int answer) {
        compare(call, refused, answer, still -> { }, RefusedTest::faults);
    }

    private void tapeGoes(String call, ToIntFunction<Still> refused, int answer) {
        compare(call, refused, answer, still -> still.end(0), RefusedTest::faults);
    }

    private void faultIsTold(String call, ToIntFunction<Still> refused, int answer) {
        compare(call, refused, answer, still -> still.end(0), still -> "");
    }

    private void compare(String call, ToIntFunction<Still> refused, int answer, Consumer<Still> instead,
            Function<Still, String> faults) {
        same(call, refused, answer, instead, faults);
        same(call, refused, answer, instead, RefusedTest::text);
        same(call, refused, answer, instead, RefusedTest::latestSetting);
        same(call, refused, answer, instead, RefusedTest::marks);
        same(call, refused, answer, instead, RefusedTest::nextSetting);
        same(call, refused, answer, instead, RefusedTest::tape);
        same(call, refused, answer, instead, RefusedTest::tests);
        same(call, refused, answer, instead, MeasuresTest::told);
        same(call, refused, answer, instead, MeasuresTest::measured);
    }

    private void same(String call, ToIntFunction<Still> refused, int answer, Consumer<Still> instead,
            Function<Still, String> ask) {
        Still one = new Still();
        calls.accept(one);
        due.is(state + ": " + call, refused.applyAsInt(one), answer);
        Still other = new Still();
        calls.accept(other);
        instead.accept(other);
        due.is(state + ": behind " + call, ask.apply(one), ask.apply(other));
    }

    // ---- what both are asked

    private static String faults(Still still) {
        return still.fault(0) + ", " + still.fault(1);
    }

    private static String text(Still still) {
        return Say.units(still);
    }

    private static String latestSetting(Still still) {
        StringBuilder all = new StringBuilder();
        all.append(still.lines()).append(": ");
        for (int k = 0; k < 12; k++) {
            for (int what = 0; what < 5; what++) {
                all.append(still.line(k, what)).append(',');
            }
            for (int i = 0; i < 14; i++) {
                all.append(still.sign(k, i)).append(';');
            }
        }
        return all.append(still.rivers(1)).append(still.rivers(2)).toString();
    }

    private static String marks(Still still) {
        StringBuilder all = new StringBuilder();
        for (int m = 0; m < 21; m++) {
            for (int what = 0; what < 3; what++) {
                all.append(still.marked(m, what)).append(',');
            }
        }
        return all.append(still.mark(0)).append(still.marked(3, 1)).toString();
    }

    private static String nextSetting(Still still) {
        StringBuilder all = new StringBuilder();
        for (int a = 'a'; a <= 'n'; a++) {
            all.append(still.like('e', a, 4)).append(',').append(still.like('k', a, 3)).append(',');
        }
        return all.append(still.set()).append(": ").append(Say.manys(still)).append(marks(still)).toString();
    }

    private static String tape(Still still) {
        String length = still.feed(0x7a20797a, 0x61622d63, 0x2e202020, 0x20202020, 0x2020203f) + ", ";
        return length + still.text() + ", " + faults(still) + ", " + Say.units(still);
    }

    private static String tests(Still still) {
        StringBuilder all = new StringBuilder(Say.tested(still));
        for (int n = 0; n < 4; n++) {
            all.append(", ").append(still.answer(false)).append(": ").append(Say.tested(still));
        }
        return all.append(still.use()).append(MeasuresTest.measured(still)).toString();
    }
}
