import java.util.ArrayList;
import java.util.HashMap;
import java.util.List;
import java.util.Map;

/**
 * THE SETTING written straight from the document, with texts and lists: of a small text by a look at every
 * SETTING, of a larger one by keeping, for each LINE that can be, the best way on.
 */
final class AllSettings {
    private record Way(int strain, List<Integer> manys) {
    }

    private static final int SMALL = 11;

    private int longest = 30;
    private int spread = 1;
    private int shortest = 1;
    private int phrase = 20;
    private int inner = 60;
    private int cut = 100;
    private int river = 5;
    private final Map<Integer, Integer> likeness = new HashMap<>();

    private final List<String> units = new ArrayList<>();
    private final Map<Integer, Way> waysOn = new HashMap<>();
    private int least;
    private List<Integer> best;

    void measure(int newLongest, int newSpread) {
        longest = newLongest;
        spread = newSpread;
    }

    void strains(int newShortest, int newPhrase, int newInner, int newCut, int newRiver) {
        shortest = newShortest;
        phrase = newPhrase;
        inner = newInner;
        cut = newCut;
        river = newRiver;
    }

    void like(int a, int b, int v) {
        likeness.put(a * 256 + b, v);
        likeness.put(b * 256 + a, v);
    }

    int likeness(int a, int b) {
        return likeness.getOrDefault(a * 256 + b, 0);
    }

    /** Takes a TEXT without a FAULT; each UNIT is held with the sign behind it. */
    void find(String text) {
        units.clear();
        for (String word : text.trim().split("[ \n]+")) {
            String[] parts = word.split("-");
            for (int i = 0; i < parts.length && !word.isEmpty(); i++) {
                boolean bare = parts[i].matches("[a-z]+");
                units.add(i < parts.length - 1 ? parts[i] + "-" : bare ? parts[i] + " " : parts[i]);
            }
        }
        find();
    }

    void find(List<String> unitsWithSigns) {
        units.clear();
        units.addAll(unitsWithSigns);
        find();
    }

    private void find() {
        least = StillText.NONE;
        best = null;
        waysOn.clear();
        if (units.size() <= SMALL) {
            tryFrom(0, new ArrayList<>());
            return;
        }
        Way way = bestWay("", 0);
        if (way != null) {
            least = way.strain();
            best = way.manys();
        }
    }

    private Way bestWay(String above, int first) {
        Way found = null;
        for (int many = units.size() - first; many >= 1; many--) {
            String line = signs(first, many);
            Way on = line.length() <= longest ? wayOn(line, first, many) : null;
            int strain = on == null ? 0 : on.strain() + strainOfTwo(above, line);
            if (on != null && (found == null || strain < found.strain())) {
                found = new Way(strain, on.manys());
            }
        }
        return found;
    }

    /** From this LINE on, with its own STRAIN; null if there is no way. */
    private Way wayOn(String line, int first, int many) {
        int key = first * 1000 + many;
        if (waysOn.containsKey(key)) {
            return waysOn.get(key);
        }
        int next = first + many;
        Way on = next == units.size() ? new Way(0, List.of()) : bestWay(line, next);
        if (on != null) {
            int lack = longest - line.length();
            int own = next == units.size() ? 0 : lack * lack * shortest + strainOfEnd(units.get(next - 1));
            List<Integer> manys = new ArrayList<>();
            manys.add(many);
            manys.addAll(on.manys());
            on = new Way(on.strain() + own, manys);
        }
        waysOn.put(key, on);
        return on;
    }

    /** The longest next LINE is tried first, so that of several with the least STRAIN the first one counts. */
    private void tryFrom(int first, List<Integer> manys) {
        if (first == units.size()) {
            int strain = strainOf(manys);
            if (best == null || strain < least) {
                least = strain;
                best = new ArrayList<>(manys);
            }
            return;
        }
        for (int many = units.size() - first; many >= 1; many--) {
            if (signs(first, many).length() <= longest) {
                manys.add(many);
                tryFrom(first + many, manys);
                manys.remove(manys.size() - 1);
            }
        }
    }

    private String signs(int first, int many) {
        StringBuilder line = new StringBuilder();
        for (int k = first; k < first + many; k++) {
            String unit = units.get(k);
            char behind = unit.charAt(unit.length() - 1);
            line.append(unit, 0, unit.length() - 1);
            boolean last = k == first + many - 1;
            if (behind == ',' || behind == '.' || behind == '-' && last) {
                line.append(behind);
            }
            if (!last && behind != '-') {
                line.append(" ".repeat(spread));
            }
        }
        return line.toString();
    }

    private int strainOf(List<Integer> manys) {
        int strain = 0;
        int first = 0;
        String above = "";
        for (int k = 0; k < manys.size(); k++) {
            String line = signs(first, manys.get(k));
            first += manys.get(k);
            strain += strainOfTwo(above, line);
            if (k < manys.size() - 1) {
                int lack = longest - line.length();
                strain += lack * lack * shortest + strainOfEnd(units.get(first - 1));
            }
            above = line;
        }
        return strain;
    }

    private int strainOfEnd(String unit) {
        char behind = unit.charAt(unit.length() - 1);
        return behind == '.' ? 0 : behind == ',' || behind == '/' ? phrase : behind == '-' ? cut : inner;
    }

    private int strainOfTwo(String above, String below) {
        int strain = 0;
        for (int i = 0; i < Math.min(above.length(), below.length()); i++) {
            char upper = above.charAt(i);
            char lower = below.charAt(i);
            if (upper == ' ' && lower == ' ') {
                strain += river;
            } else if (Character.isLetter(upper) && Character.isLetter(lower)) {
                strain += likeness(upper, lower);
            }
        }
        return strain;
    }

    int strain() {
        return least;
    }

    /** How many UNITS each LINE of THE SETTING has; null when there is none. */
    List<Integer> manys() {
        return best;
    }

    /** As {@link Say#manys} tells them. */
    String manysTold() {
        StringBuilder all = new StringBuilder();
        for (int k = 0; best != null && k < best.size(); k++) {
            all.append(best.get(k)).append('|');
        }
        return all.toString();
    }

    /** As {@link Say#lines} tells a SETTING. */
    String lines() {
        StringBuilder all = new StringBuilder();
        int first = 0;
        for (int k = 0; best != null && k < best.size(); k++) {
            all.append(signs(first, best.get(k))).append('|');
            first += best.get(k);
        }
        return all.toString();
    }
}
