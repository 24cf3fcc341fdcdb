/** Promise 1: an empty TEXT, no SETTING, no TESTS, and everything as it is at first. */
public final class NewObjectTest {
    public static void main(String[] args) {
        Due due = new Due("promise 1");
        Still still = new Still();
        due.is("NONE", StillText.NONE, -1);
        due.is("unit(0, 0)", still.unit(0, 0), -1);
        due.is("fault(0)", still.fault(0), 0);
        due.is("fault(1)", still.fault(1), -1);
        due.is("lines()", still.lines(), -1);
        due.is("line(0, 0)", still.line(0, 0), -1);
        due.is("sign(0, 0)", still.sign(0, 0), -1);
        due.is("rivers(1)", still.rivers(1), -1);
        due.is("mark(0)", still.mark(0), -1);
        due.is("marked(0, 0)", still.marked(0, 0), -1);
        due.is("marked(0, 2)", still.marked(0, 2), -1);
        for (int what = -1; what < 7; what++) {
            due.is("tested(" + what + ")", still.tested(what), -1);
        }
        due.is("answer(true)", still.answer(true), -1);
        due.is("answer(false)", still.answer(false), -1);
        due.is("use()", still.use(), false);
        due.is("end(1) of an empty tape", still.end(1), false);
        due.is("set() of an empty TEXT", still.set(), 0);
        due.is("lines() of an empty TEXT", still.lines(), 0);
        due.is("rivers(1) of an empty TEXT", still.rivers(1), 0);
        due.is("line(0, 0) of an empty TEXT", still.line(0, 0), -1);
        due.is("mark(0) of an empty TEXT", still.mark(0), -1);
        nothingIsThere(due);
        firstMeasures(due);
        ownState(due);
        fiveHundredTwelve(due);
        due.finish();
    }

    private static void nothingIsThere(Due due) {
        Still still = new Still();
        for (int k = -1; k < 3; k++) {
            for (int what = -1; what < 6; what++) {
                due.is("unit(" + k + ", " + what + ")", still.unit(k, what), -1);
                due.is("line(" + k + ", " + what + ")", still.line(k, what), -1);
                due.is("sign(" + k + ", " + what + ")", still.sign(k, what), -1);
                due.is("marked(" + k + ", " + what + ")", still.marked(k, what), -1);
            }
            due.is("mark(" + k + ")", still.mark(k), -1);
            due.is("put(" + k + ")", still.put(k), -1);
        }
        due.is("text() of an empty tape", still.text(), 0);
        due.is("lines() of it", still.lines(), -1);
    }

    /** LONG 30, SPREAD 1, SHORT 1, PHRASE 20, INNER 60, CUT 100, RIVER 5, LIKENESS 0, ROWS 10, TINTS 3. */
    private static void firstMeasures(Due due) {
        String ten = "aaaaaaaaaa";
        Still still = Say.with(ten + " " + ten + " aaaaaaaa " + ten + " " + ten + " aaaaaaaa b");
        due.is("set(): INNER and RIVER", still.set(), 60 + 60 + 5 + 5);
        due.is("LONG 30, SPREAD 1", Say.lines(still),
                ten + " " + ten + " aaaaaaaa|" + ten + " " + ten + " aaaaaaaa|b|");
        still = Say.with(ten + ten + ", " + ten + ten);
        due.is("set(): SHORT and PHRASE", still.set(), 81 + 20);
        still = Say.with("a-" + ten + ten + "-" + ten + ten);
        due.is("set(): SHORT and CUT", still.set(), 64 + 100);
        still = new Still();
        for (int a = 'a'; a <= 'z'; a++) {
            due.is("like(" + a + ", " + a + ", 0)", still.like(a, a, 0), 0);
            due.is("like(97, " + a + ", 0)", still.like('a', a, 0), 0);
        }
        still.measure(10, 1);
        StringBuilder text = new StringBuilder();
        for (int k = 0; k < 25; k++) {
            text.append("aaaaaaaaa ");
        }
        Say.text(still, text.toString());
        still.set();
        due.is("line(9, 4)", still.line(9, 4), 0);
        due.is("line(10, 4)", still.line(10, 4), 1);
        due.is("line(24, 4)", still.line(24, 4), 2);
        due.is("line(2, 3)", still.line(2, 3), 2);
        due.is("line(3, 3)", still.line(3, 3), 0);
        due.is("line(10, 3)", still.line(10, 3), 1);
    }

    /** Nothing that one object hears is known to another. */
    private static void ownState(Due due) {
        Still one = Say.with("a b");
        one.like('a', 'b', 7);
        one.test(1, 1, 1);
        one.set();
        Still other = new Still();
        due.is("other's like(97, 98, 0)", other.like('a', 'b', 0), 0);
        due.is("other's lines()", other.lines(), -1);
        due.is("other's tested(0)", other.tested(0), -1);
        due.is("other's unit(0, 0)", other.unit(0, 0), -1);
        due.is("one's unit(1, 0)", one.unit(1, 0), 1);
    }

    /** The 512th call of an object is answered as the first one would be. */
    private static void fiveHundredTwelve(Due due) {
        Still still = Say.with("ab cd-e.");
        while (still.callsLeft() > 40) {
            still.unit(still.callsLeft() % 4, still.callsLeft() % 3);
        }
        due.is("text() late", Say.text(still, "ab cd-e."), 3);
        due.is("set() late", still.set(), 0);
        due.is("lines() late", Say.lines(still), "ab cde.|");
        due.is("test() late", still.test(10, 2, 1), true);
        due.is("put() late", Say.put(still, 0, "x y"), 4);
        while (still.callsLeft() > 3) {
            due.is("set() late", still.set(), 0);
        }
        due.is("the 510th call", still.mark(3), 0);
        due.is("the 511th call", still.answer(false), 2);
        due.is("the 512th call", still.marked(0, 0), 3);
        due.is("calls left", still.callsLeft(), 0);
    }
}
