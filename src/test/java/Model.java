import java.util.ArrayList;
import java.util.List;

/** The whole document once more, plainly, to hold long runs of calls against. */
final class Model {
    private record Mark(int unit, int page) {
    }

    private final StringBuilder tape = new StringBuilder();
    private List<String> units = new ArrayList<>();
    private int fault;
    private int place = -1;

    private final AllSettings setter = new AllSettings();
    private int longest = 30;
    private int spread = 1;
    private boolean there;
    private boolean ofText;
    private List<String> lines = new ArrayList<>();
    private List<Integer> manys = new ArrayList<>();
    private int rows = 10;
    private int tints = 3;
    private List<Mark> marks = new ArrayList<>();

    private boolean testing;
    private int bestLong;
    private int bestSpread;
    private int lead;
    private List<String> left = new ArrayList<>();
    private int forBest;
    private int forOther;
    private int answers;
    private int won;

    int feed(int... numbers) {
        if (tape.length() > 580) {
            return -1;
        }
        for (int number : numbers) {
            String hex = String.format("%08x", number);
            for (int i = 0; i < 8; i += 2) {
                tape.append((char) Integer.parseInt(hex.substring(i, i + 2), 16));
            }
        }
        return tape.length();
    }

    boolean end(int n) {
        if (n < 0 || n > tape.length()) {
            return false;
        }
        tape.setLength(n);
        return true;
    }

    /** All beginnings of TEXTS, by what they look like; then the limits, UNIT by UNIT. */
    private List<String> read() {
        String all = tape.toString();
        tape.setLength(0);
        fault = 0;
        place = -1;
        String word = "[a-z]+(-[a-z]+)*[,./]?";
        String beginning = "[ \n]*(" + word + "[ \n]+)*((" + word + "|[a-z]+(-[a-z]+)*-)?)";
        List<String> found = new ArrayList<>();
        int size = 0;
        for (int i = 0; i < all.length() && fault == 0; i++) {
            char sign = all.charAt(i);
            if (!all.substring(0, i + 1).matches(beginning)) {
                fault = 1;
            } else if (Character.isLetter(sign)) {
                size = i > 0 && Character.isLetter(all.charAt(i - 1)) ? size + 1 : 1;
                fault = size == 1 && found.size() == 80 ? 3 : size == 21 ? 2 : 0;
                if (size == 1) {
                    found.add(" ");
                }
                String last = found.get(found.size() - 1);
                found.set(found.size() - 1, last.substring(0, last.length() - 1) + sign + " ");
            } else if (sign != ' ' && sign != '\n') {
                String last = found.get(found.size() - 1);
                found.set(found.size() - 1, last.substring(0, last.length() - 1) + sign);
            }
            place = fault == 0 ? -1 : i;
        }
        if (fault == 0 && all.endsWith("-")) {
            fault = 1;
            place = all.length();
        }
        return found;
    }

    int text() {
        List<String> found = read();
        if (fault != 0) {
            return -1;
        }
        units = found;
        there = false;
        marks = new ArrayList<>();
        return units.size();
    }

    int fault(int what) {
        return what == 0 ? fault : what == 1 ? place : -1;
    }

    private boolean goesOn(int k) {
        return units.get(k).endsWith("-");
    }

    int put(int k) {
        if (k < 0 || k >= units.size() || goesOn(k) || k > 0 && goesOn(k - 1)) {
            tape.setLength(0);
            return -1;
        }
        List<String> found = read();
        if (fault != 0 || found.isEmpty() || units.size() - 1 + found.size() > 80) {
            return -2;
        }
        units.remove(k);
        units.addAll(k, found);
        List<Mark> moved = new ArrayList<>();
        for (Mark mark : marks) {
            moved.add(mark.unit() > k ? new Mark(mark.unit() + found.size() - 1, mark.page()) : mark);
        }
        marks = moved;
        ofText = false;
        return units.size();
    }

    int unit(int k, int what) {
        if (k < 0 || k >= units.size()) {
            return -1;
        }
        String unit = units.get(k);
        int word = (int) units.subList(0, k).stream().filter(u -> !u.endsWith("-")).count();
        return what == 0 ? unit.length() - 1 : what == 1 ? unit.charAt(unit.length() - 1) : what == 2 ? word : -1;
    }

    boolean measure(int newLongest, int newSpread) {
        if (newLongest < 10 || newLongest > 60 || newSpread < 1 || newSpread > 3) {
            return false;
        }
        longest = newLongest;
        spread = newSpread;
        return true;
    }

    boolean strains(int shortest, int phrase, int inner, int cut, int river) {
        if (Math.min(Math.min(shortest, phrase), Math.min(Math.min(inner, cut), river)) < 0
                || shortest > 100 || Math.max(phrase, Math.max(inner, cut)) > 10000 || river > 1000) {
            return false;
        }
        setter.strains(shortest, phrase, inner, cut, river);
        return true;
    }

    int like(int a, int b, int v) {
        if (a < 97 || a > 122 || b < 97 || b > 122 || v < 0 || v > 1000) {
            return -1;
        }
        int before = setter.likeness(a, b);
        setter.like(a, b, v);
        return before;
    }

    int set() {
        setter.measure(longest, spread);
        setter.find(units);
        if (setter.manys() == null) {
            return -1;
        }
        there = true;
        ofText = true;
        manys = setter.manys();
        lines = new ArrayList<>();
        for (String line : setter.lines().split("\\|")) {
            if (!line.isEmpty()) {
                lines.add(line);
            }
        }
        return setter.strain();
    }

    int lines() {
        return there ? lines.size() : -1;
    }

    private boolean hasLine(int k) {
        return there && k >= 0 && k < lines.size();
    }

    int line(int k, int what) {
        if (!hasLine(k)) {
            return -1;
        }
        int first = manys.subList(0, k).stream().mapToInt(Integer::intValue).sum();
        switch (what) {
            case 0: return first;
            case 1: return manys.get(k);
            case 2: return lines.get(k).length();
            case 3: return (k % rows + k / rows) % tints;
            case 4: return k / rows;
            default: return -1;
        }
    }

    int sign(int k, int i) {
        return hasLine(k) && i >= 0 && i < lines.get(k).length() ? lines.get(k).charAt(i) : -1;
    }

    int rivers(int n) {
        if (!there || n < 1) {
            return -1;
        }
        int found = 0;
        for (int i = 0; i < 60; i++) {
            for (int k = 0; k < lines.size(); k++) {
                if (sign(k, i) == 32 && sign(k - 1, i) != 32) {
                    int run = 0;
                    while (sign(k + run, i) == 32) {
                        run++;
                    }
                    found += run > n ? 1 : 0;
                }
            }
        }
        return found;
    }

    boolean page(int newRows, int newTints) {
        if (newRows < 2 || newRows > 40 || newTints < 2 || newTints > 7) {
            return false;
        }
        rows = newRows;
        tints = newTints;
        return true;
    }

    private int pageOfUnit(int unit) {
        int line = 0;
        for (int behind = manys.get(0); behind <= unit; behind += manys.get(line)) {
            line++;
        }
        return line / rows;
    }

    int mark(int k) {
        if (!there || !ofText || k < 0 || k >= units.size() || marks.size() == 20) {
            return -1;
        }
        marks.add(new Mark(k, pageOfUnit(k)));
        return marks.size() - 1;
    }

    int marked(int m, int what) {
        if (m < 0 || m >= marks.size() || what < 0 || what > 2) {
            return -1;
        }
        Mark mark = marks.get(m);
        int shift = there && ofText ? pageOfUnit(mark.unit()) - mark.page() : -1000;
        return what == 0 ? mark.unit() : what == 1 ? mark.page() : shift;
    }

    boolean test(int i, int j, int newLead) {
        if (i < 0 || i > 10 || j < 0 || j > 2 || newLead < 1 || newLead > 9) {
            return false;
        }
        testing = true;
        lead = newLead;
        answers = 0;
        won = 0;
        begin(i, j);
        return true;
    }

    private void begin(int i, int j) {
        bestLong = i;
        bestSpread = j;
        forBest = 0;
        forOther = 0;
        left = new ArrayList<>();
        int[][] all = {{i + 1, j}, {i - 1, j}, {i, j + 1}, {i, j - 1}};
        for (int[] one : all) {
            if (one[0] >= 0 && one[0] <= 10 && one[1] >= 0 && one[1] <= 2) {
                left.add(one[0] + " " + one[1]);
            }
        }
    }

    private int neighbour(int part) {
        return left.isEmpty() ? -1 : Integer.parseInt(left.get(0).split(" ")[part]);
    }

    int tested(int what) {
        int[] all = {bestLong, bestSpread, neighbour(0), neighbour(1), answers, won};
        return testing && what >= 0 && what < 6 ? all[what] : -1;
    }

    int answer(boolean best) {
        if (!testing || left.isEmpty()) {
            return -1;
        }
        answers++;
        forBest += best ? 1 : 0;
        forOther += best ? 0 : 1;
        int says = 0;
        if (forBest - forOther == lead) {
            says = 1;
            left.remove(0);
            forBest = 0;
            forOther = 0;
            won++;
        } else if (forOther - forBest == lead) {
            says = 2;
            won++;
            begin(neighbour(0), neighbour(1));
        }
        if (answers == 200) {
            left.clear();
        }
        return left.isEmpty() ? 3 : says;
    }

    boolean use() {
        return testing && measure(20 + 4 * bestLong, 1 + bestSpread);
    }
}
