/** Promises 19 to 22: test, tested, answer and use. */
public final class ReaderTest {
    public static void main(String[] args) {
        Due due = new Due("promises 19 to 22");
        beginnings(due);
        order(due);
        corners(due);
        leads(due);
        nothingIsBeatenThen(due);
        twoHundred(due);
        uses(due);
        due.finish();
    }

    private static String tell(StillText still) {
        StringBuilder all = new StringBuilder();
        for (int what = 0; what < 6; what++) {
            all.append(still.tested(what)).append(what < 5 ? "," : "");
        }
        return all.toString();
    }

    private static StillText at(int i, int j, int lead) {
        StillText still = new StillText();
        still.test(i, j, lead);
        return still;
    }

    private static void beginnings(Due due) {
        StillText still = new StillText();
        int[][] wrong = {{-1, 0, 1}, {11, 0, 1}, {0, -1, 1}, {0, 3, 1}, {0, 0, 0}, {0, 0, 10}, {0, 0, -1},
            {Integer.MIN_VALUE, 0, 1}, {Integer.MAX_VALUE, 0, 1}, {0, Integer.MIN_VALUE, 1},
            {0, Integer.MAX_VALUE, 1}, {0, 0, Integer.MIN_VALUE}, {0, 0, Integer.MAX_VALUE}};
        for (int[] t : wrong) {
            due.is("test(" + t[0] + ", " + t[1] + ", " + t[2] + ")", still.test(t[0], t[1], t[2]), false);
        }
        due.is("no TESTS", tell(still), "-1,-1,-1,-1,-1,-1");
        due.is("test(3, 1, 2)", still.test(3, 1, 2), true);
        still.answer(true);
        String before = tell(still);
        due.is("after an answer", before, "3,1,4,1,1,0");
        for (int[] t : wrong) {
            still.test(t[0], t[1], t[2]);
            due.is("a false changes nothing", tell(still), before);
        }
        due.is("tested(6)", still.tested(6), -1);
        due.is("tested(-1)", still.tested(-1), -1);
        due.is("tested(MAX)", still.tested(Integer.MAX_VALUE), -1);
        due.is("the TEST goes on", still.answer(true), 1);
        due.is("test(10, 2, 9)", still.test(10, 2, 9), true);
        due.is("all anew", tell(still), "10,2,9,2,0,0");
        due.is("test(0, 0, 1)", still.test(0, 0, 1), true);
        due.is("all anew", tell(still), "0,0,1,0,0,0");
    }

    private static void order(Due due) {
        StillText still = at(5, 1, 1);
        due.is("the next LONG", tell(still), "5,1,6,1,0,0");
        due.is("answer", still.answer(true), 1);
        due.is("the LONG before", tell(still), "5,1,4,1,1,1");
        due.is("answer", still.answer(true), 1);
        due.is("the next SPREAD", tell(still), "5,1,5,2,2,2");
        due.is("answer", still.answer(true), 1);
        due.is("the SPREAD before", tell(still), "5,1,5,0,3,3");
        due.is("answer", still.answer(true), 3);
        due.is("ended", tell(still), "5,1,-1,-1,4,4");
        due.is("answer behind the end", still.answer(true), -1);
        due.is("answer behind the end", still.answer(false), -1);
        due.is("ended still", tell(still), "5,1,-1,-1,4,4");
    }

    private static void corners(Due due) {
        StillText still = at(10, 2, 1);
        due.is("no next LONG", tell(still), "10,2,9,2,0,0");
        due.is("answer", still.answer(true), 1);
        due.is("no next SPREAD", tell(still), "10,2,10,1,1,1");
        due.is("answer", still.answer(true), 3);
        still = at(0, 0, 1);
        still.answer(true);
        due.is("none before", tell(still), "0,0,0,1,1,1");
        due.is("answer", still.answer(true), 3);
        still = at(9, 0, 1);
        due.is("the neighbour wins", still.answer(false), 2);
        due.is("at the edge", tell(still), "10,0,9,0,1,1");
    }

    private static void leads(Due due) {
        for (int lead = 1; lead <= 9; lead++) {
            StillText still = at(5, 1, lead);
            for (int n = 1; n < lead; n++) {
                due.is("answer " + n + " of " + lead, still.answer(false), 0);
            }
            due.is("the other one", still.answer(true), lead == 1 ? 1 : 0);
            still = at(5, 1, lead);
            for (int n = 1; n < lead; n++) {
                still.answer(false);
            }
            due.is("LEAD " + lead, still.answer(false), 2);
            due.is("THE BEST", tell(still), "6,1,7,1," + lead + ",1");
        }
        StillText still = at(5, 1, 2);
        boolean[] heard = {true, false, false, true, true};
        for (boolean best : heard) {
            due.is("no LEAD of 2", still.answer(best), 0);
        }
        due.is("a LEAD of 2", still.answer(true), 1);
        due.is("the next TEST begins with none", still.answer(false), 0);
        due.is("so does it here", still.answer(false), 2);
        due.is("THE BEST", tell(still), "4,1,5,1,8,2");
        still.answer(false);
        still.test(5, 1, 2);
        due.is("TESTS that begin anew begin with none", still.answer(false), 0);
        still.test(5, 1, 1);
        due.is("LEAD of the latest TESTS", still.answer(true), 1);
    }

    private static void nothingIsBeatenThen(Due due) {
        StillText still = at(5, 0, 1);
        still.answer(true);
        still.answer(true);
        due.is("two are beaten", tell(still), "5,0,5,1,2,2");
        due.is("the neighbour wins", still.answer(false), 2);
        due.is("none is", tell(still), "5,1,6,1,3,3");
        still.answer(true);
        still.answer(true);
        still.answer(true);
        due.is("not even the one before", tell(still), "5,1,5,0,6,6");
        due.is("the neighbour wins", still.answer(false), 2);
        due.is("back again", tell(still), "5,0,6,0,7,7");
    }

    private static void twoHundred(Due due) {
        StillText still = at(5, 1, 2);
        for (int n = 1; n < 200; n++) {
            due.is("answer " + n, still.answer(n % 2 == 0), 0);
        }
        due.is("tested(2) ahead of the 200th", still.tested(2), 6);
        due.is("the 200th, nobody won", still.answer(true), 3);
        due.is("ended", tell(still), "5,1,-1,-1,200,0");
        due.is("a 201st", still.answer(true), -1);
        due.is("ended still", tell(still), "5,1,-1,-1,200,0");

        // A circle of wins: the neighbour always, to and fro between the two last LONGS.
        still = at(9, 0, 1);
        for (int n = 1; n < 200; n++) {
            due.is("win " + n, still.answer(false), 2);
        }
        due.is("ahead of the 200th", tell(still), "10,0,9,0,199,199");
        due.is("the 200th, the neighbour won", still.answer(false), 3);
        due.is("it is THE BEST", tell(still), "9,0,-1,-1,200,200");

        still = at(9, 0, 1);
        for (int n = 1; n < 200; n++) {
            still.answer(false);
        }
        due.is("the 200th, THE BEST won", still.answer(true), 3);
        due.is("it stays", tell(still), "10,0,-1,-1,200,200");
        due.is("TESTS begin again", still.test(1, 2, 3), true);
        due.is("answer", still.answer(true), 0);
        due.is("anew", tell(still), "1,2,2,2,1,0");
    }

    private static void uses(Due due) {
        StillText still = new StillText();
        due.is("use() without TESTS", still.use(), false);
        Say.text(still, "aaaaaaaaa aaaaaaaaa aaaaaaaaa");
        still.set();
        due.is("LONG as it was", Say.lines(still), "aaaaaaaaa aaaaaaaaa aaaaaaaaa|");
        still.test(0, 1, 1);
        due.is("use()", still.use(), true);
        due.is("nothing is set by it", still.lines(), 1);
        still.set();
        due.is("LONG 20, SPREAD 2", Say.lines(still), "aaaaaaaaa  aaaaaaaaa|aaaaaaaaa|");
        still.answer(false);
        still.set();
        due.is("not ahead of use()", still.lines(), 2);
        still.use();
        still.answer(true);
        still.answer(true);
        still.answer(false);
        still.use();
        Say.text(still, "aaaaaaaaaa aaaaaaaaaaa bbbb");
        still.set();
        due.is("LONG 24, SPREAD 3", Say.lines(still), "aaaaaaaaaa   aaaaaaaaaaa|bbbb|");
        still.test(10, 2, 1);
        still.answer(true);
        due.is("they end", still.answer(true), 3);
        due.is("use() behind the end", still.use(), true);
        Say.text(still, "aaaaaaaaaaaaaaaaaaaa aaaaaaaaaaaaaaaaaaaa bbbbbbbbbbbbbb c");
        still.set();
        due.is("LONG 60, SPREAD 3", still.line(0, 2), 60);
        due.is("measure() behind use()", still.measure(20, 1), true);
        still.set();
        due.is("LONG 20", still.lines(), 3);
    }
}
