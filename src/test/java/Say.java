import java.nio.charset.StandardCharsets;

/** Texts for the tape, and SETTINGS as texts. */
final class Say {
    private Say() {
    }

    /** Puts a text behind what is on the tape, where {@code before} bytes are. */
    static void more(StillText still, int before, String text) {
        byte[] bytes = text.getBytes(StandardCharsets.ISO_8859_1);
        for (int i = 0; i < bytes.length; i += 20) {
            still.feed(number(bytes, i), number(bytes, i + 4), number(bytes, i + 8), number(bytes, i + 12),
                    number(bytes, i + 16));
        }
        still.end(before + bytes.length);
    }

    /** Makes a text all that is on the tape. */
    static void tape(StillText still, String text) {
        still.end(0);
        more(still, 0, text);
    }

    static int text(StillText still, String text) {
        tape(still, text);
        return still.text();
    }

    static int put(StillText still, int k, String text) {
        tape(still, text);
        return still.put(k);
    }

    static StillText with(String text) {
        StillText still = new StillText();
        text(still, text);
        return still;
    }

    private static int number(byte[] bytes, int from) {
        int number = 0;
        for (int i = from; i < from + 4; i++) {
            number = number << 8 | (i < bytes.length ? bytes[i] & 255 : 0);
        }
        return number;
    }

    /** THE TEXT by unit(): letters, what stands behind, number of the WORD. */
    static String units(StillText still) {
        StringBuilder all = new StringBuilder();
        for (int k = 0; still.unit(k, 0) != StillText.NONE; k++) {
            all.append(still.unit(k, 0)).append((char) still.unit(k, 1)).append(still.unit(k, 2)).append(';');
        }
        return all.toString();
    }

    /** The latest SETTING, a | behind each LINE. */
    static String lines(StillText still) {
        StringBuilder all = new StringBuilder();
        for (int k = 0; k < still.lines(); k++) {
            for (int i = 0; i < still.line(k, 2); i++) {
                all.append((char) still.sign(k, i));
            }
            all.append('|');
        }
        return all.toString();
    }
}
