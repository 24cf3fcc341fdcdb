/** Promises 19 to 22: test, tested, answer and use. */
public final class ReaderTest {
    public static void main(String[] args) {
        Due due = new Due("promises 19 to 22");
        everyBeginning(due);
        beginnings(due);
        testedBounds(due);
        order(due);
        everyNeighbour(due);
        corners(due);
        leads(due);
        nothingIsBeatenThen(due);
        twoHundred(due);
        hundredNinetyNine(due);
        lastWithTheTwoHundredth(due);
        withoutTests(due);
        usesEveryMeasure(due);
        uses(due);
        due.finish();
    }

    private static Still at(int i, int j, int lead) {
        Still still = new Still();
        still.test(i, j, lead);
        return still;
    }

    private static void everyBeginning(Due due) {
        for (int i = -2; i <= 12; i++) {
            for (int j = -2; j <= 4; j++) {
                Still still = new Still();
                for (int lead = -1; lead <= 11; lead++) {
                    boolean can = i >= 0 && i <= 10 && j >= 0 && j <= 2 && lead >= 1 && lead <= 9;
                    String call = "test(" + i + ", " + j + ", " + lead + ")";
                    due.is(call, still.test(i, j, lead), can);
                    boolean begun = i >= 0 && i <= 10 && j >= 0 && j <= 2 && lead >= 1;
                    due.is("tested(0) behind " + call, still.tested(0), begun ? i : -1);
                    due.is("tested(1) behind " + call, still.tested(1), begun ? j : -1);
                }
            }
        }
    }

    private static void testedBounds(Due due) {
        Still still = at(4, 1, 1);
        still.answer(true);
        int[] others = {-1, 6, 7, Integer.MIN_VALUE, Integer.MAX_VALUE};
        for (int what : others) {
            due.is("tested(" + what + ")", still.tested(what), -1);
        }
        due.is("the six", Say.tested(still), "4,1,3,1,1,1");
        for (int n = 0; n < 3; n++) {
            still.answer(true);
        }
        for (int what : others) {
            due.is("tested(" + what + ") behind the end", still.tested(what), -1);
        }
        due.is("the six behind the end", Say.tested(still), "4,1,-1,-1,4,4");
    }

    /** At each MEASURE of the grid: its neighbours, in their order, until they end. */
    private static void everyNeighbour(Due due) {
        int[][] steps = {{1, 0}, {-1, 0}, {0, 1}, {0, -1}};
        for (int i = 0; i <= 10; i++) {
            for (int j = 0; j <= 2; j++) {
                StringBuilder want = new StringBuilder();
                for (int[] step : steps) {
                    int a = i + step[0];
                    int b = j + step[1];
                    want.append(a < 0 || a > 10 || b < 0 || b > 2 ? "" : a + "," + b + ";");
                }
                Still still = at(i, j, 1);
                StringBuilder found = new StringBuilder();
                int says = 1;
                for (int n = 0; n < 5 && says == 1; n++) {
                    found.append(still.tested(2)).append(',').append(still.tested(3)).append(';');
                    says = still.answer(true);
                }
                due.is("neighbours of " + i + ", " + j, found.toString(), want.toString());
                due.is("the end at " + i + ", " + j, says, 3);
                due.is("THE BEST at the end", still.tested(0) + "," + still.tested(1), i + "," + j);
                due.is("no neighbour at the end", still.tested(2) + "," + still.tested(3), "-1,-1");
            }
        }
    }

    private static void beginnings(Due due) {
        Still still = new Still();
        int[][] wrong = {{-1, 0, 1}, {11, 0, 1}, {0, -1, 1}, {0, 3, 1}, {0, 0, 0}, {0, 0, 10}, {0, 0, -1},
            {Integer.MIN_VALUE, 0, 1}, {Integer.MAX_VALUE, 0, 1}, {0, Integer.MIN_VALUE, 1},
            {0, Integer.MAX_VALUE, 1}, {0, 0, Integer.MIN_VALUE}, {0, 0, Integer.MAX_VALUE}};
        for (int[] t : wrong) {
            due.is("test(" + t[0] + ", " + t[1] + ", " + t[2] + ")", still.test(t[0], t[1], t[2]), false);
        }
        due.is("no TESTS", Say.tested(still), "-1,-1,-1,-1,-1,-1");
        due.is("test(3, 1, 2)", still.test(3, 1, 2), true);
        still.answer(true);
        String before = Say.tested(still);
        due.is("after an answer", before, "3,1,4,1,1,0");
        for (int[] t : wrong) {
            still.test(t[0], t[1], t[2]);
            due.is("a false changes nothing", Say.tested(still), before);
        }
        due.is("tested(6)", still.tested(6), -1);
        due.is("tested(-1)", still.tested(-1), -1);
        due.is("tested(MAX)", still.tested(Integer.MAX_VALUE), -1);
        due.is("the TEST goes on", still.answer(true), 1);
        due.is("test(10, 2, 9)", still.test(10, 2, 9), true);
        due.is("all anew", Say.tested(still), "10,2,9,2,0,0");
        due.is("test(0, 0, 1)", still.test(0, 0, 1), true);
        due.is("all anew", Say.tested(still), "0,0,1,0,0,0");
    }

    private static void order(Due due) {
        Still still = at(5, 1, 1);
        due.is("the next LONG", Say.tested(still), "5,1,6,1,0,0");
        due.is("answer", still.answer(true), 1);
        due.is("the LONG before", Say.tested(still), "5,1,4,1,1,1");
        due.is("answer", still.answer(true), 1);
        due.is("the next SPREAD", Say.tested(still), "5,1,5,2,2,2");
        due.is("answer", still.answer(true), 1);
        due.is("the SPREAD before", Say.tested(still), "5,1,5,0,3,3");
        due.is("answer", still.answer(true), 3);
        due.is("ended", Say.tested(still), "5,1,-1,-1,4,4");
        due.is("answer behind the end", still.answer(true), -1);
        due.is("answer behind the end", still.answer(false), -1);
        due.is("ended still", Say.tested(still), "5,1,-1,-1,4,4");
    }

    private static void corners(Due due) {
        Still still = at(10, 2, 1);
        due.is("no next LONG", Say.tested(still), "10,2,9,2,0,0");
        due.is("answer", still.answer(true), 1);
        due.is("no next SPREAD", Say.tested(still), "10,2,10,1,1,1");
        due.is("answer", still.answer(true), 3);
        still = at(0, 0, 1);
        still.answer(true);
        due.is("none before", Say.tested(still), "0,0,0,1,1,1");
        due.is("answer", still.answer(true), 3);
        still = at(9, 0, 1);
        due.is("the neighbour wins", still.answer(false), 2);
        due.is("at the edge", Say.tested(still), "10,0,9,0,1,1");
    }

    private static void leads(Due due) {
        for (int lead = 1; lead <= 9; lead++) {
            Still still = at(5, 1, lead);
            for (int n = 1; n < lead; n++) {
                due.is("answer " + n + " of " + lead, still.answer(false), 0);
            }
            due.is("the other one", still.answer(true), lead == 1 ? 1 : 0);
            still = at(5, 1, lead);
            for (int n = 1; n < lead; n++) {
                still.answer(false);
            }
            due.is("LEAD " + lead, still.answer(false), 2);
            due.is("THE BEST", Say.tested(still), "6,1,7,1," + lead + ",1");
        }
        Still still = at(5, 1, 2);
        boolean[] heard = {true, false, false, true, true};
        for (boolean best : heard) {
            due.is("no LEAD of 2", still.answer(best), 0);
        }
        due.is("a LEAD of 2", still.answer(true), 1);
        due.is("the next TEST begins with none", still.answer(false), 0);
        due.is("so does it here", still.answer(false), 2);
        due.is("THE BEST", Say.tested(still), "4,1,5,1,8,2");
        still.answer(false);
        still.test(5, 1, 2);
        due.is("TESTS that begin anew begin with none", still.answer(false), 0);
        still.test(5, 1, 1);
        due.is("LEAD of the latest TESTS", still.answer(true), 1);
    }

    private static void nothingIsBeatenThen(Due due) {
        Still still = at(5, 0, 1);
        still.answer(true);
        still.answer(true);
        due.is("two are beaten", Say.tested(still), "5,0,5,1,2,2");
        due.is("the neighbour wins", still.answer(false), 2);
        due.is("none is", Say.tested(still), "5,1,6,1,3,3");
        still.answer(true);
        still.answer(true);
        still.answer(true);
        due.is("not even the one before", Say.tested(still), "5,1,5,0,6,6");
        due.is("the neighbour wins", still.answer(false), 2);
        due.is("back again", Say.tested(still), "5,0,6,0,7,7");
    }

    private static void twoHundred(Due due) {
        Still still = at(5, 1, 2);
        for (int n = 1; n < 200; n++) {
            due.is("answer " + n, still.answer(n % 2 == 0), 0);
        }
        due.is("tested(2) ahead of the 200th", still.tested(2), 6);
        due.is("the 200th, nobody won", still.answer(true), 3);
        due.is("ended", Say.tested(still), "5,1,-1,-1,200,0");
        due.is("a 201st", still.answer(true), -1);
        due.is("ended still", Say.tested(still), "5,1,-1,-1,200,0");

        // A circle of wins: the neighbour always, to and fro between the two last LONGS.
        still = at(9, 0, 1);
        for (int n = 1; n < 200; n++) {
            due.is("win " + n, still.answer(false), 2);
        }
        due.is("ahead of the 200th", Say.tested(still), "10,0,9,0,199,199");
        due.is("the 200th, the neighbour won", still.answer(false), 3);
        due.is("it is THE BEST", Say.tested(still), "9,0,-1,-1,200,200");

        still = at(9, 0, 1);
        for (int n = 1; n < 200; n++) {
            still.answer(false);
        }
        due.is("the 200th, THE BEST won", still.answer(true), 3);
        due.is("it stays", Say.tested(still), "10,0,-1,-1,200,200");
        due.is("TESTS begin again", still.test(1, 2, 3), true);
        due.is("answer", still.answer(true), 0);
        due.is("anew", Say.tested(still), "1,2,2,2,1,0");
    }

    /** The 199th answer is one like the others, whoever wins with it. */
    private static void hundredNinetyNine(Due due) {
        boolean[] both = {true, false};
        for (boolean best : both) {
            Still still = at(9, 0, 1);
            for (int n = 1; n < 199; n++) {
                still.answer(false);
            }
            due.is("ahead of the 199th", Say.tested(still), "9,0,10,0,198,198");
            due.is("the 199th", still.answer(best), best ? 1 : 2);
            due.is("behind the 199th", Say.tested(still), best ? "9,0,8,0,199,199" : "10,0,9,0,199,199");
            due.is("the 200th", still.answer(true), 3);
            due.is("behind the 200th", Say.tested(still), best ? "9,0,-1,-1,200,200" : "10,0,-1,-1,200,200");
            due.is("a 201st", still.answer(best), -1);
            due.is("use() behind the 200th", still.use(), true);
            due.is("LONG and SPREAD", MeasuresTest.measured(still), best ? "56, 1" : "60, 1");
        }
    }

    /** TESTS of a higher LEAD are cut short by the 200th answer: nobody has won the last one. */
    private static void lastWithTheTwoHundredth(Due due) {
        Still still = at(5, 1, 9);
        int n = 0;
        while (n < 192) {
            due.is("answer " + n, still.answer(n % 2 == 0), 0);
            n++;
        }
        while (n < 199) {
            due.is("answer " + n, still.answer(false), 0);
            n++;
        }
        due.is("the 200th, one ahead by eight", still.answer(false), 3);
        due.is("nobody has won", Say.tested(still), "5,1,-1,-1,200,0");
        due.is("a 201st that would win", still.answer(false), -1);
        due.is("nobody has won", Say.tested(still), "5,1,-1,-1,200,0");
        still.test(5, 1, 9);
        for (n = 0; n < 8; n++) {
            due.is("answers begin anew", still.answer(false), 0);
        }
        due.is("and so does the LEAD", still.answer(false), 2);
        due.is("behind it", Say.tested(still), "6,1,7,1,9,1");
    }

    private static void withoutTests(Due due) {
        Still still = new Still();
        still.measure(44, 2);
        still.test(11, 0, 1);
        due.is("answer(true)", still.answer(true), -1);
        due.is("answer(false)", still.answer(false), -1);
        due.is("use()", still.use(), false);
        due.is("no TESTS", Say.tested(still), "-1,-1,-1,-1,-1,-1");
        due.is("LONG and SPREAD as they were", MeasuresTest.measured(still), "44, 2");
    }

    private static void usesEveryMeasure(Due due) {
        for (int i = 0; i <= 10; i++) {
            for (int j = 0; j <= 2; j++) {
                Still still = at(i, j, 1);
                due.is("LONG and SPREAD ahead of use()", MeasuresTest.measured(still), "30, 1");
                due.is("use()", still.use(), true);
                due.is("LONG and SPREAD of " + i + ", " + j, MeasuresTest.measured(still),
                        (20 + 4 * i) + ", " + (1 + j));
            }
        }
    }

    private static void uses(Due due) {
        Still still = new Still();
        due.is("use() without TESTS", still.use(), false);
        Say.text(still, "aaaaaaaaa aaaaaaaaa aaaaaaaaa");
        still.set();
        due.is("LONG as it was", Say.lines(still), "aaaaaaaaa aaaaaaaaa aaaaaaaaa|");
        still.test(0, 1, 1);
        due.is("use()", still.use(), true);
        due.is("nothing is set by it", still.lines(), 1);
        still.set();
        due.is("LONG 20, SPREAD 2", Say.lines(still), "aaaaaaaaa  aaaaaaaaa|aaaaaaaaa|");
        still.answer(false);
        still.set();
        due.is("not ahead of use()", still.lines(), 2);
        still.use();
        still.answer(true);
        still.answer(true);
        still.answer(false);
        still.use();
        Say.text(still, "aaaaaaaaaa aaaaaaaaaaa bbbb");
        still.set();
        due.is("LONG 24, SPREAD 3", Say.lines(still), "aaaaaaaaaa   aaaaaaaaaaa|bbbb|");
        still.test(10, 2, 1);
        still.answer(true);
        due.is("they end", still.answer(true), 3);
        due.is("use() behind the end", still.use(), true);
        Say.text(still, "aaaaaaaaaaaaaaaaaaaa aaaaaaaaaaaaaaaaaaaa bbbbbbbbbbbbbb c");
        still.set();
        due.is("LONG 60, SPREAD 3", still.line(0, 2), 60);
        due.is("measure() behind use()", still.measure(20, 1), true);
        still.set();
        due.is("LONG 20", still.lines(), 3);
    }
}
