/** Term I, with promises 4 and 5: what a TEXT goes on with at each place, and which FAULT is the first. */
public final class BytesTest {
    private static final String LETTERS = "abcdefghijklmnopqrstuvwxyz";
    private static final String TWENTY = "abcdefghijklmnopqrst";
    private static final String EIGHTY = "a ".repeat(80);
    private static final String BLANKS = "\n ";
    private static final String ENDS = ",./";

    public static void main(String[] args) {
        Due due = new Due("term I, promises 4, 5");
        everyByteEverywhere(due);
        everyEndOfText(due);
        letters(due);
        units(due);
        firstAlongTheText(due);
        lastBytesOfTheTape(due);
        due.finish();
    }

    private static void everyByteEverywhere(Due due) {
        String[] aheadOfWord = {"", " ", "\n", "ab ", "ab\n", "ab, ", "ab.\n", "ab/ "};
        for (String beginning : aheadOfWord) {
            everyByte(due, beginning, BLANKS + LETTERS);
        }
        String[] inWord = {"a", "z", "ab", "ab-c", "ab cd", "a-z"};
        for (String beginning : inWord) {
            everyByte(due, beginning, BLANKS + LETTERS + ENDS + "-");
        }
        String[] behindJoint = {"a-", "ab-c-", "ab cd-"};
        for (String beginning : behindJoint) {
            everyByte(due, beginning, LETTERS);
        }
        String[] behindEnd = {"a,", "ab.", "a-b/", "c a."};
        for (String beginning : behindEnd) {
            everyByte(due, beginning, BLANKS);
        }
    }

    /** Each of the 256 bytes, as the last one and with more behind it. */
    private static void everyByte(Due due, String beginning, String goesOn) {
        for (char sign = 0; sign < 256; sign++) {
            String text = beginning + sign;
            if (goesOn.indexOf(sign) < 0) {
                refused(due, text, 1, beginning.length());
                refused(due, text + "a", 1, beginning.length());
            } else if (sign == '-') {
                refused(due, text, 1, text.length());
                taken(due, text + "a");
            } else {
                taken(due, text);
            }
        }
    }

    private static void taken(Due due, String text) {
        Still still = Say.with("?");
        due.is("text() of " + told(text), Say.text(still, text), unitsIn(text));
        due.is("fault(0) of " + told(text), still.fault(0), 0);
        due.is("fault(1) of " + told(text), still.fault(1), -1);
    }

    private static int unitsIn(String text) {
        int units = 0;
        for (String part : text.split("[^a-z]+")) {
            units += part.isEmpty() ? 0 : 1;
        }
        return units;
    }

    private static void refused(Due due, String text, int fault, int place) {
        Still still = Say.with("old");
        due.is("text() of " + told(text), Say.text(still, text), -1);
        due.is("fault(0) of " + told(text), still.fault(0), fault);
        due.is("fault(1) of " + told(text), still.fault(1), place);
        due.is("UNITS behind " + told(text), still.unit(0, 0) + "," + still.unit(1, 0), "3,-1");
    }

    private static String told(String text) {
        StringBuilder all = new StringBuilder("[");
        for (char sign : text.toCharArray()) {
            boolean plain = sign >= ' ' && sign < 127;
            all.append(plain ? String.valueOf(sign) : "<" + (int) sign + ">");
        }
        return all.append(']').toString();
    }

    /** A TEXT ends too soon behind a JOINT alone. */
    private static void everyEndOfText(Due due) {
        String text = " ab-c, d-e-f. g/\nh ";
        for (int length = 0; length <= text.length(); length++) {
            String part = text.substring(0, length);
            if (part.endsWith("-")) {
                refused(due, part, 1, length);
            } else {
                taken(due, part);
            }
        }
    }

    private static void letters(Due due) {
        String[] ends = {"", ",", ".", "/", " ", "\n", "-b", " b"};
        for (String end : ends) {
            taken(due, TWENTY.substring(1) + end);
            taken(due, TWENTY + end);
            refused(due, TWENTY + "u" + end, 2, 20);
            refused(due, "x " + TWENTY + "u" + end, 2, 22);
            refused(due, "x-" + TWENTY + "u" + end, 2, 22);
        }
        refused(due, TWENTY + TWENTY, 2, 20);
        taken(due, TWENTY + "-" + TWENTY + "-" + TWENTY + " " + TWENTY + ".");
        refused(due, TWENTY + "-" + TWENTY + "u", 2, 41);
        refused(due, TWENTY + " " + TWENTY + "u", 2, 41);
        refused(due, TWENTY + ", " + TWENTY + "u", 2, 42);
    }

    private static void units(Due due) {
        String[] sizes = {"a ", "a-", "a, ", "a\n", "abc. "};
        for (String one : sizes) {
            String last = "b";
            taken(due, one.repeat(78) + last);
            taken(due, one.repeat(79) + last);
            refused(due, one.repeat(80) + last, 3, 80 * one.length());
            refused(due, one.repeat(80) + "bcd-e f", 3, 80 * one.length());
            refused(due, one.repeat(81) + last, 3, 80 * one.length());
        }
        taken(due, EIGHTY + " \n ");
        taken(due, "a ".repeat(79) + TWENTY + ".");
        refused(due, EIGHTY + " \n bcd", 3, 163);
        refused(due, "a ".repeat(79) + "b-c", 3, 160);
        refused(due, "a ".repeat(78) + "b-c d", 3, 160);
    }

    private static void firstAlongTheText(Due due) {
        refused(due, "? " + TWENTY + "u", 1, 0);
        refused(due, TWENTY + "u ?", 2, 20);
        refused(due, TWENTY + "u?", 2, 20);
        refused(due, TWENTY + "?u", 1, 20);
        refused(due, TWENTY + "u-", 2, 20);
        refused(due, "? " + EIGHTY + "b", 1, 0);
        refused(due, EIGHTY + "b?", 3, 160);
        refused(due, EIGHTY + "?b", 1, 160);
        refused(due, EIGHTY + "-", 1, 160);
        refused(due, EIGHTY + "b-", 3, 160);
        refused(due, TWENTY + "u " + EIGHTY, 2, 20);
        refused(due, EIGHTY + TWENTY + "u", 3, 160);
        refused(due, "a ".repeat(79) + TWENTY + "u b", 2, 178);
        refused(due, "a-".repeat(80), 1, 160);
        refused(due, "a-".repeat(80) + "-", 1, 160);
        refused(due, "a-".repeat(80) + " b", 1, 160);
        refused(due, "a-".repeat(80) + "b", 3, 160);
        refused(due, "a?b?" + TWENTY + "u", 1, 1);
        refused(due, TWENTY + "u " + TWENTY + "u", 2, 20);
    }

    private static void lastBytesOfTheTape(Due due) {
        taken(due, " ".repeat(599) + "a");
        taken(due, " ".repeat(600));
        refused(due, " ".repeat(599) + "?", 1, 599);
        refused(due, " ".repeat(598) + "a-", 1, 600);
        refused(due, " ".repeat(579) + TWENTY + "u", 2, 599);
        refused(due, " ".repeat(439) + EIGHTY + "b", 3, 599);
        taken(due, " ".repeat(580) + TWENTY);
        taken(due, " ".repeat(440) + EIGHTY);
    }
}
