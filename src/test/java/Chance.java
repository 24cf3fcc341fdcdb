/** Numbers by chance, the same in every run. */
final class Chance {
    private static final String LETTERS = "abdpqmn";
    private long seed;

    Chance(long seed) {
        this.seed = seed * 7919 + 17;
    }

    int below(int bound) {
        seed = seed * 6364136223846793005L + 1442695040888963407L;
        return (int) ((seed >>> 33) % bound);
    }

    boolean once(int in) {
        return below(in) == 0;
    }

    /** A TEXT of at most so many UNITS that the tape can hold. */
    String text(int most) {
        StringBuilder text = new StringBuilder();
        int units = below(most + 1);
        int longest = 1 + below(once(4) ? 12 : 6);
        for (int k = 0; k < units && (k == 0 || text.length() < 560); k++) {
            int size = 1 + below(longest);
            for (int i = 0; i < size; i++) {
                text.append(LETTERS.charAt(below(LETTERS.length())));
            }
            boolean joint = k < units - 1 && text.length() < 550 && once(4);
            text.append(joint ? "-" : once(4) ? ", " : once(5) ? ". " : once(6) ? "/ " : once(8) ? " \n" : " ");
        }
        return text.toString();
    }

    /** LONG, SPREAD, STRAINS and LIKENESSES, told to both. */
    void measures(Still still, AllSettings all) {
        int longest = 10 + below(once(2) ? 8 : 30);
        int spread = 1 + below(3);
        still.measure(longest, spread);
        boolean flat = once(3);
        int shortest = flat ? below(2) : below(6);
        int phrase = flat ? 0 : below(60);
        int inner = flat ? 0 : below(120);
        int cut = flat ? 0 : below(200);
        int river = below(flat ? 3 : 40);
        still.strains(shortest, phrase, inner, cut, river);
        all.measure(longest, spread);
        all.strains(shortest, phrase, inner, cut, river);
        for (int n = below(8); n > 0; n--) {
            int a = LETTERS.charAt(below(LETTERS.length()));
            int b = LETTERS.charAt(below(LETTERS.length()));
            int v = below(30);
            still.like(a, b, v);
            all.like(a, b, v);
        }
    }
}
