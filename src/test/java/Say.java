import java.nio.charset.StandardCharsets;

/** Texts for the tape, and what an object tells of itself as texts, in few calls. */
final class Say {
    private Say() {
    }

    /** Puts a text behind what is on the tape, where {@code before} bytes are. */
    static void more(Still still, int before, String text) {
        byte[] bytes = text.getBytes(StandardCharsets.ISO_8859_1);
        for (int i = 0; i < bytes.length; i += 20) {
            still.feed(number(bytes, i), number(bytes, i + 4), number(bytes, i + 8), number(bytes, i + 12),
                    number(bytes, i + 16));
        }
        still.end(before + bytes.length);
    }

    /** Makes a text all that is on the tape. */
    static void tape(Still still, String text) {
        still.end(0);
        more(still, 0, text);
    }

    static int text(Still still, String text) {
        tape(still, text);
        return still.text();
    }

    static int put(Still still, int k, String text) {
        tape(still, text);
        return still.put(k);
    }

    static Still with(String text) {
        Still still = new Still();
        text(still, text);
        return still;
    }

    private static int number(byte[] bytes, int from) {
        int number = 0;
        for (int i = from; i < from + 4; i++) {
            number = number << 8 | (i < bytes.length ? bytes[i] & 255 : 0);
        }
        return number;
    }

    /** THE TEXT by unit(): letters, what stands behind, number of the WORD. */
    static String units(Still still) {
        StringBuilder all = new StringBuilder();
        for (int letters = still.unit(0, 0), k = 0; letters != StillText.NONE; letters = still.unit(k, 0)) {
            all.append(letters).append((char) still.unit(k, 1)).append(still.unit(k, 2)).append(';');
            k++;
        }
        return all.toString();
    }

    /** The latest SETTING, a | behind each LINE. */
    static String lines(Still still) {
        StringBuilder all = new StringBuilder();
        int lines = still.lines();
        for (int k = 0; k < lines; k++) {
            int signs = still.line(k, 2);
            for (int i = 0; i < signs; i++) {
                all.append((char) still.sign(k, i));
            }
            all.append('|');
        }
        return all.toString();
    }

    /** How many UNITS the LINES of the latest SETTING have. */
    static String manys(Still still) {
        StringBuilder all = new StringBuilder();
        int lines = still.lines();
        for (int k = 0; k < lines; k++) {
            all.append(still.line(k, 1)).append('|');
        }
        return all.toString();
    }

    /** THE BEST, the neighbour, answers, TESTS that were won. */
    static String tested(Still still) {
        StringBuilder all = new StringBuilder();
        for (int what = 0; what < 6; what++) {
            all.append(still.tested(what)).append(what < 5 ? "," : "");
        }
        return all.toString();
    }
}
