import java.util.ArrayList;
import java.util.HashMap;
import java.util.List;
import java.util.Map;

/** Every SETTING of a small text, one by one, written straight from the document: slow, but plain. */
final class AllSettings {
    private int longest = 30;
    private int spread = 1;
    private int shortest = 1;
    private int phrase = 20;
    private int inner = 60;
    private int cut = 100;
    private int river = 5;
    private final Map<Integer, Integer> likeness = new HashMap<>();

    private final List<String> units = new ArrayList<>();
    private int least;
    private List<Integer> best;

    void measure(int newLongest, int newSpread) {
        longest = newLongest;
        spread = newSpread;
    }

    void strains(int newShortest, int newPhrase, int newInner, int newCut, int newRiver) {
        shortest = newShortest;
        phrase = newPhrase;
        inner = newInner;
        cut = newCut;
        river = newRiver;
    }

    void like(int a, int b, int v) {
        likeness.put(a * 256 + b, v);
        likeness.put(b * 256 + a, v);
    }

    int likeness(int a, int b) {
        return likeness.getOrDefault(a * 256 + b, 0);
    }

    /** Looks through all SETTINGS; each UNIT is held with the sign behind it. */
    void find(String text) {
        units.clear();
        for (String word : text.trim().split("[ \n]+")) {
            String[] parts = word.split("-");
            for (int i = 0; i < parts.length && !word.isEmpty(); i++) {
                boolean bare = parts[i].matches("[a-z]+");
                units.add(i < parts.length - 1 ? parts[i] + "-" : bare ? parts[i] + " " : parts[i]);
            }
        }
        least = StillText.NONE;
        best = null;
        tryFrom(0, new ArrayList<>());
    }

    /** The longest next LINE is tried first, so that of several with the least STRAIN the first one counts. */
    private void tryFrom(int first, List<Integer> manys) {
        if (first == units.size()) {
            int strain = strainOf(manys);
            if (best == null || strain < least) {
                least = strain;
                best = new ArrayList<>(manys);
            }
            return;
        }
        for (int many = units.size() - first; many >= 1; many--) {
            if (signs(first, many).length() <= longest) {
                manys.add(many);
                tryFrom(first + many, manys);
                manys.remove(manys.size() - 1);
            }
        }
    }

    private String signs(int first, int many) {
        StringBuilder line = new StringBuilder();
        for (int k = first; k < first + many; k++) {
            String unit = units.get(k);
            char behind = unit.charAt(unit.length() - 1);
            line.append(unit, 0, unit.length() - 1);
            boolean last = k == first + many - 1;
            if (behind == ',' || behind == '.' || behind == '-' && last) {
                line.append(behind);
            }
            if (!last && behind != '-') {
                line.append(" ".repeat(spread));
            }
        }
        return line.toString();
    }

    private int strainOf(List<Integer> manys) {
        int strain = 0;
        int first = 0;
        String above = "";
        for (int k = 0; k < manys.size(); k++) {
            String line = signs(first, manys.get(k));
            first += manys.get(k);
            strain += strainOfTwo(above, line);
            if (k < manys.size() - 1) {
                int lack = longest - line.length();
                strain += lack * lack * shortest + strainOfEnd(units.get(first - 1));
            }
            above = line;
        }
        return strain;
    }

    private int strainOfEnd(String unit) {
        char behind = unit.charAt(unit.length() - 1);
        return behind == '.' ? 0 : behind == ',' || behind == '/' ? phrase : behind == '-' ? cut : inner;
    }

    private int strainOfTwo(String above, String below) {
        int strain = 0;
        for (int i = 0; i < Math.min(above.length(), below.length()); i++) {
            char upper = above.charAt(i);
            char lower = below.charAt(i);
            if (upper == ' ' && lower == ' ') {
                strain += river;
            } else if (Character.isLetter(upper) && Character.isLetter(lower)) {
                strain += likeness(upper, lower);
            }
        }
        return strain;
    }

    int strain() {
        return least;
    }

    /** As {@link Say#lines} tells a SETTING. */
    String lines() {
        StringBuilder all = new StringBuilder();
        int first = 0;
        for (int k = 0; best != null && k < best.size(); k++) {
            all.append(signs(first, best.get(k))).append('|');
            first += best.get(k);
        }
        return all.toString();
    }
}
