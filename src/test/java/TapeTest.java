/** Promises 2 and 3: feed and end. */
public final class TapeTest {
    private static final int BLANKS = 0x20202020;

    public static void main(String[] args) {
        Due due = new Due("promises 2, 3");
        highestFirst(due);
        toSixHundred(due);
        beyondSixHundred(due);
        afterRefusal(due);
        ends(due);
        everyEnd(due);
        cutBytesAreGone(due);
        due.finish();
    }

    private static int feedBlanks(Still still) {
        return still.feed(BLANKS, BLANKS, BLANKS, BLANKS, BLANKS);
    }

    private static void highestFirst(Due due) {
        Still still = new Still();
        due.is("feed", still.feed(0x61622d63, 0x2c206465, 0x2e20660a, 0x672f2020, 0x68202020), 20);
        due.is("text()", still.text(), 6);
        due.is("the order of the bytes", Say.units(still), "2-0;1,0;2.1;1 2;1/3;1 4;");
        due.is("feed of bytes above 127", still.feed(0x6180ff61, -1, -1, -1, -1), 20);
        due.is("text()", still.text(), -1);
        due.is("fault(1)", still.fault(1), 1);
        due.is("feed with a - sign", still.feed(BLANKS, BLANKS, 0xe1202020, 0, 0), 20);
        due.is("text()", still.text(), -1);
        due.is("fault(1)", still.fault(1), 8);
        due.is("feed of each number", still.feed(0x61202020, 0x62622020, 0x63636320, 0x64646464, 0x65652020), 20);
        due.is("text()", still.text(), 4);
        due.is("units", Say.units(still), "1 0;2 1;3 2;6 3;");
        due.is("feed of the least and the most", still.feed(Integer.MIN_VALUE, Integer.MAX_VALUE, 0, -1, 1), 20);
        due.is("text() of it", still.text(), -1);
        due.is("fault(1) of it", still.fault(1), 0);
    }

    private static void toSixHundred(Due due) {
        Still still = new Still();
        for (int fed = 20; fed <= 600; fed += 20) {
            due.is("feed to " + fed, feedBlanks(still), fed);
        }
        due.is("feed beyond 600", still.feed(0x61616161, 0, 0, 0, 0), -1);
        due.is("end(601)", still.end(601), false);
        due.is("end(600)", still.end(600), true);
        due.is("text() of 600 blanks", still.text(), 0);
        due.is("feed on a tape that went", still.feed(0, 0, 0, 0, 0), 20);
    }

    /** From 580 bytes on there is room, from 581 on there is none; what is there stays as it is. */
    private static void beyondSixHundred(Due due) {
        for (int length = 578; length <= 600; length++) {
            Still still = new Still();
            Say.more(still, 0, " ".repeat(length - 2) + "a-");
            boolean room = length <= 580;
            String at = " at " + length;
            due.is("feed" + at, still.feed(0x62202063, 0x20206420, 0x20652020, BLANKS, BLANKS),
                    room ? length + 20 : -1);
            due.is("end of one more" + at, still.end((room ? length + 20 : length) + 1), false);
            due.is("text()" + at, still.text(), room ? 5 : -1);
            due.is("fault(0)" + at, still.fault(0), room ? 0 : 1);
            due.is("fault(1)" + at, still.fault(1), room ? -1 : length);
        }
    }

    private static void afterRefusal(Due due) {
        Still still = new Still();
        Say.more(still, 0, " ".repeat(581));
        due.is("feed to 601", still.feed(0x61616161, 0, 0, 0, 0), -1);
        due.is("end(580)", still.end(580), true);
        due.is("feed to 600", still.feed(0x20202061, BLANKS, BLANKS, BLANKS, BLANKS), 600);
        due.is("text()", still.text(), 1);
        due.is("units", Say.units(still), "1 0;");
    }

    private static void ends(Due due) {
        Still still = new Still();
        due.is("end(0) of an empty tape", still.end(0), true);
        due.is("end(1) of an empty tape", still.end(1), false);
        due.is("end(-1) of an empty tape", still.end(-1), false);
        Say.more(still, 0, "ab cd ef");
        due.is("end(9)", still.end(9), false);
        due.is("end(-1)", still.end(-1), false);
        due.is("end(MIN)", still.end(Integer.MIN_VALUE), false);
        due.is("end(MAX)", still.end(Integer.MAX_VALUE), false);
        due.is("end(8), all of them", still.end(8), true);
        due.is("end(4)", still.end(4), true);
        due.is("end(5) of four", still.end(5), false);
        due.is("feed behind four", still.feed(0x78797a20, BLANKS, BLANKS, BLANKS, BLANKS), 24);
        due.is("text()", still.text(), 2);
        due.is("units", Say.units(still), "2 0;4 1;");
        due.is("end(1) when the tape went", still.end(1), false);
        due.is("end(0) when the tape went", still.end(0), true);
    }

    private static void everyEnd(Due due) {
        for (int n = -2; n <= 22; n++) {
            Still still = new Still();
            still.feed(0x61616161, 0x61616161, 0x61616161, 0x61616161, 0x61616161);
            boolean can = n >= 0 && n <= 20;
            due.is("end(" + n + ")", still.end(n), can);
            due.is("text() behind end(" + n + ")", still.text(), n == 0 ? 0 : 1);
            due.is("letters behind end(" + n + ")", still.unit(0, 0), n == 0 ? -1 : can ? n : 20);
        }
    }

    /** What end() has cut off does not come back, and what is fed stands at once behind the rest. */
    private static void cutBytesAreGone(Due due) {
        Still still = new Still();
        Say.more(still, 0, "abc def ghi");
        due.is("end(0)", still.end(0), true);
        due.is("end(1)", still.end(1), false);
        due.is("text() of nothing", still.text(), 0);
        Say.more(still, 0, "abc def ghi");
        due.is("end(2)", still.end(2), true);
        Say.more(still, 2, "xy");
        due.is("text()", still.text(), 1);
        due.is("units", Say.units(still), "4 0;");
    }
}
