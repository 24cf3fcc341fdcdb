/** Promises 2 and 3: feed and end. */
public final class TapeTest {
    public static void main(String[] args) {
        Due due = new Due("promises 2, 3");
        highestFirst(due);
        atMostSixHundred(due);
        ends(due);
        due.finish();
    }

    private static void highestFirst(Due due) {
        StillText still = new StillText();
        due.is("feed", still.feed(0x61622d63, 0x2c206465, 0x2e20660a, 0x672f2020, 0x68202020), 20);
        due.is("text()", still.text(), 6);
        due.is("the order of the bytes", Say.units(still), "2-0;1,0;2.1;1 2;1/3;1 4;");
        due.is("feed of bytes above 127", still.feed(0x6180ff61, -1, -1, -1, -1), 20);
        due.is("text()", still.text(), -1);
        due.is("fault(1)", still.fault(1), 1);
        due.is("feed with a - sign", still.feed(0x20202020, 0x20202020, 0xe1202020, 0, 0), 20);
        due.is("text()", still.text(), -1);
        due.is("fault(1)", still.fault(1), 8);
        due.is("feed of each number", still.feed(0x61202020, 0x62622020, 0x63636320, 0x64646464, 0x65652020), 20);
        due.is("text()", still.text(), 4);
        due.is("units", Say.units(still), "1 0;2 1;3 2;6 3;");
    }

    private static void atMostSixHundred(Due due) {
        StillText still = new StillText();
        for (int fed = 20; fed <= 600; fed += 20) {
            due.is("feed to " + fed, still.feed(0x20202020, 0x20202020, 0x20202020, 0x20202020, 0x20202020), fed);
        }
        due.is("feed beyond 600", still.feed(0x61616161, 0, 0, 0, 0), -1);
        due.is("end(601)", still.end(601), false);
        due.is("end(600)", still.end(600), true);
        due.is("end(581)", still.end(581), true);
        due.is("feed to 601", still.feed(0x61616161, 0, 0, 0, 0), -1);
        due.is("end(580)", still.end(580), true);
        due.is("feed to 600 again", still.feed(0x20202061, 0x20202020, 0x20202020, 0x20202020, 0x20202020), 600);
        due.is("text()", still.text(), 1);
        due.is("feed on a tape that went", still.feed(0, 0, 0, 0, 0), 20);
    }

    private static void ends(Due due) {
        StillText still = new StillText();
        due.is("end(0)", still.end(0), true);
        due.is("end(1)", still.end(1), false);
        due.is("end(-1)", still.end(-1), false);
        Say.more(still, 0, "ab cd ef");
        due.is("end(9)", still.end(9), false);
        due.is("end(-1)", still.end(-1), false);
        due.is("end(MIN)", still.end(Integer.MIN_VALUE), false);
        due.is("end(MAX)", still.end(Integer.MAX_VALUE), false);
        due.is("end(4)", still.end(4), true);
        due.is("end(5) of four", still.end(5), false);
        due.is("feed behind four", still.feed(0x78797a20, 0x20202020, 0x20202020, 0x20202020, 0x20202020), 24);
        due.is("text()", still.text(), 2);
        due.is("units", Say.units(still), "2 0;4 1;");
        due.is("end(1) when the tape went", still.end(1), false);
    }
}
