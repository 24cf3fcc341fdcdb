/**
 * A setter of texts for readers whose lines swim: it breaks a text between phrases rather than within them,
 * at the least strain, numbers its pages so that marks keep theirs, and finds a reader's own measures.
 *
 * All rows are made with the object and used again, so that no later call makes anything.
 */
public final class StillText {
    /** There is none; it is refused. */
    public static final int NONE = -1;

    private static final int MOST_BYTES = 600;
    private static final int MOST_UNITS = 80;
    private static final int MOST_LETTERS = 20;
    private static final int LEAST_LONG = 10;
    private static final int MOST_LONG = 60;
    private static final int MOST_SPREAD = 3;
    private static final int MOST_MARKS = 20;

    private static final int FIRST_LETTER = 'a';
    private static final int LAST_LETTER = 'z';
    private static final int BLANK = ' ';
    private static final int LINE_FEED = '\n';
    private static final int JOINT = '-';
    private static final int COMMA = ',';
    private static final int STOP = '.';
    private static final int SLASH = '/';

    private static final int PUT_REFUSED = -2;
    private static final int OTHER_TEXT = -1000;

    private final Tape tape = new Tape();
    private final Reading reading = new Reading();
    private final Units units = new Units();
    private final Measures measures = new Measures();
    private final Setting setting = new Setting();
    private final Setter setter = new Setter(setting.strip(), measures);
    private final Pages pages = new Pages();
    private final Marks marks = new Marks();
    private final Trials trials = new Trials();

    /** An empty TEXT, no SETTING, no TESTS. */
    public StillText() {
    }

    /** Puts twenty bytes behind those on the tape: how many there are, or NONE. */
    public int feed(int a, int b, int c, int d, int e) {
        return tape.append(a, b, c, d, e);
    }

    /** Keeps the tape's first n bytes alone. */
    public boolean end(int n) {
        return tape.keepFirst(n);
    }

    /** Makes the tape THE TEXT: how many UNITS, or NONE with a FAULT. */
    public int text() {
        readTape();
        if (reading.hasFault()) {
            return NONE;
        }
        units.takeAll(reading.units());
        setting.drop();
        marks.drop();
        return units.count();
    }

    /** The latest reading's FAULT (0) or its place (1). */
    public int fault(int what) {
        switch (what) {
            case 0:
                return reading.kind();
            case 1:
                return reading.place();
            default:
                return NONE;
        }
    }

    /** Puts the WORDS of the tape where UNIT k was: how many UNITS there are, -1 or -2. */
    public int put(int k) {
        if (!units.isWholeWord(k)) {
            // A put() that is -1 leaves fault() as it was, so the tape goes unread.
            tape.clear();
            return NONE;
        }
        readTape();
        int more = reading.units().count() - 1;
        if (reading.hasFault() || more < 0 || units.count() + more > MOST_UNITS) {
            return PUT_REFUSED;
        }
        units.replace(k, reading.units());
        marks.moveBehind(k, more);
        setting.outdate();
        return units.count();
    }

    /** Of UNIT k: letters (0), what stands behind it (1), its WORD's number (2). */
    public int unit(int k, int what) {
        if (!units.has(k)) {
            return NONE;
        }
        switch (what) {
            case 0:
                return units.letters(k);
            case 1:
                return units.behind(k);
            case 2:
                return units.wordNumber(k);
            default:
                return NONE;
        }
    }

    /** Changes LONG and SPREAD. */
    public boolean measure(int longest, int spread) {
        return measures.changeLine(longest, spread);
    }

    /** Changes SHORT, PHRASE, INNER, CUT and RIVER. */
    public boolean strains(int shortest, int phrase, int inner, int cut, int river) {
        return measures.changeStrains(shortest, phrase, inner, cut, river);
    }

    /** Changes the LIKENESS of two letters: what it was. */
    public int like(int a, int b, int v) {
        return measures.changeLikeness(a, b, v);
    }

    /** Makes THE SETTING: its STRAIN, or NONE. */
    public int set() {
        if (!units.fitAlone(measures.longest())) {
            return NONE;
        }
        setting.begin(units, measures.spread());
        setter.weighLines();
        return setter.putLines(setting);
    }

    /** LINES of the latest SETTING. */
    public int lines() {
        return setting.isThere() ? setting.count() : NONE;
    }

    /** Of LINE k: first UNIT (0), UNITS (1), signs (2), TINT (3), PAGE (4). */
    public int line(int k, int what) {
        if (!setting.has(k)) {
            return NONE;
        }
        switch (what) {
            case 0:
                return setting.first(k);
            case 1:
                return setting.unitsIn(k);
            case 2:
                return setting.signsIn(k);
            case 3:
                return pages.tintOf(k);
            case 4:
                return pages.pageOf(k);
            default:
                return NONE;
        }
    }

    /** Sign i of LINE k. */
    public int sign(int k, int i) {
        return setting.signAt(k, i);
    }

    /** How many rows of more than n blanks stand above one another. */
    public int rivers(int n) {
        if (!setting.isThere() || n < 1) {
            return NONE;
        }
        int found = 0;
        for (int place = 0; place < MOST_LONG; place++) {
            found += setting.riversAt(place, n);
        }
        return found;
    }

    /** Changes ROWS and TINTS. */
    public boolean page(int rows, int tints) {
        return pages.change(rows, tints);
    }

    /** Puts a MARK at UNIT k: its number, or NONE. */
    public int mark(int k) {
        if (!setting.isOfText() || !units.has(k)) {
            return NONE;
        }
        return marks.add(k, pages.pageOf(setting.lineOf(k)));
    }

    /** Of MARK m: UNIT (0), PAGE (1), SHIFT (2). */
    public int marked(int m, int what) {
        if (!marks.has(m)) {
            return NONE;
        }
        switch (what) {
            case 0:
                return marks.unitOf(m);
            case 1:
                return marks.pageOf(m);
            case 2:
                return shiftOf(m);
            default:
                return NONE;
        }
    }

    // ---- readers

    /** Begins TESTS at a MEASURE, with a LEAD. */
    public boolean test(int i, int j, int lead) {
        return trials.begin(i, j, lead);
    }

    /** Of the TEST: THE BEST (0, 1), the neighbour (2, 3), answers (4), TESTS won (5). */
    public int tested(int what) {
        return trials.tell(what);
    }

    /** Hears which one was read better: 0 it goes on, 1 or 2 who won, 3 they ended, or NONE. */
    public int answer(boolean best) {
        return trials.hear(best);
    }

    /** Makes THE BEST's LONG and SPREAD those of the next SETTING. */
    public boolean use() {
        return trials.haveBegun() && measures.changeLine(trials.bestLongest(), trials.bestSpread());
    }

    private void readTape() {
        reading.read(tape);
        tape.clear();
    }

    private int shiftOf(int m) {
        if (!setting.isOfText()) {
            return OTHER_TEXT;
        }
        return pages.pageOf(setting.lineOf(marks.unitOf(m))) - marks.pageOf(m);
    }

    private static boolean within(int value, int least, int most) {
        return value >= least && value <= most;
    }

    private static boolean isLetter(int sign) {
        return sign >= FIRST_LETTER && sign <= LAST_LETTER;
    }

    /** The bytes that wait to be read. */
    private static final class Tape {
        private static final int FED_AT_ONCE = 20;

        private final int[] bytes = new int[MOST_BYTES];
        private int length;

        int length() {
            return length;
        }

        int byteAt(int i) {
            return i >= 0 && i < length ? bytes[i] : NONE;
        }

        void clear() {
            length = 0;
        }

        boolean keepFirst(int n) {
            if (!within(n, 0, length)) {
                return false;
            }
            length = n;
            return true;
        }

        int append(int a, int b, int c, int d, int e) {
            if (length + FED_AT_ONCE > MOST_BYTES) {
                return NONE;
            }
            appendNumber(a);
            appendNumber(b);
            appendNumber(c);
            appendNumber(d);
            appendNumber(e);
            return length;
        }

        private void appendNumber(int number) {
            for (int shift = 24; shift >= 0 && length < MOST_BYTES; shift -= 8) {
                bytes[length] = (number >>> shift) & 255;
                length++;
            }
        }
    }

    /** UNITS in order, each with its letters and the byte behind it. */
    private static final class Units {
        private final int[] letters = new int[MOST_UNITS * MOST_LETTERS];
        private final int[] sizes = new int[MOST_UNITS];
        private final int[] behind = new int[MOST_UNITS];
        private int count;

        int count() {
            return count;
        }

        boolean has(int k) {
            return k >= 0 && k < count;
        }

        int letters(int k) {
            return has(k) ? sizes[k] : NONE;
        }

        int behind(int k) {
            return has(k) ? behind[k] : NONE;
        }

        boolean goesOn(int k) {
            return behind(k) == JOINT;
        }

        boolean isWholeWord(int k) {
            return has(k) && !goesOn(k) && !goesOn(k - 1);
        }

        int wordNumber(int k) {
            int number = 0;
            for (int before = 0; before < k && before < count; before++) {
                if (!goesOn(before)) {
                    number++;
                }
            }
            return number;
        }

        /** A / tells where a phrase ends, but the reader does not see it. */
        int signs(int k) {
            if (!has(k)) {
                return 0;
            }
            boolean endIsSeen = behind[k] == COMMA || behind[k] == STOP;
            return endIsSeen ? sizes[k] + 1 : sizes[k];
        }

        int signAt(int k, int i) {
            if (!has(k) || i < 0 || i > sizes[k]) {
                return NONE;
            }
            return i < sizes[k] ? letters[k * MOST_LETTERS + i] : behind[k];
        }

        /** Where each UNIT fits by itself there is a SETTING; where one does not, no LINE can hold it. */
        boolean fitAlone(int longest) {
            for (int k = 0; k < count; k++) {
                if (signs(k) + (goesOn(k) ? 1 : 0) > longest) {
                    return false;
                }
            }
            return true;
        }

        void clear() {
            count = 0;
        }

        boolean open() {
            if (count >= MOST_UNITS) {
                return false;
            }
            sizes[count] = 0;
            behind[count] = BLANK;
            count++;
            return true;
        }

        boolean addLetter(int letter) {
            int last = count - 1;
            if (last < 0 || sizes[last] >= MOST_LETTERS) {
                return false;
            }
            letters[last * MOST_LETTERS + sizes[last]] = letter;
            sizes[last]++;
            return true;
        }

        void close(int sign) {
            if (count > 0) {
                behind[count - 1] = sign;
            }
        }

        void takeAll(Units from) {
            for (int k = 0; k < from.count; k++) {
                copyUnit(from, k, k);
            }
            count = from.count;
        }

        void replace(int k, Units from) {
            int more = from.count - 1;
            if (!has(k) || more < 0 || count + more > MOST_UNITS) {
                return;
            }
            // From the end on, so that no UNIT is written over before it has moved.
            for (int later = count - 1; later > k; later--) {
                copyUnit(this, later, later + more);
            }
            for (int added = 0; added < from.count; added++) {
                copyUnit(from, added, k + added);
            }
            count += more;
        }

        private void copyUnit(Units from, int k, int to) {
            System.arraycopy(from.letters, k * MOST_LETTERS, letters, to * MOST_LETTERS, MOST_LETTERS);
            sizes[to] = from.sizes[k];
            behind[to] = from.behind[k];
        }
    }

    /** The latest reading of a tape: its UNITS, or its FAULT. */
    private static final class Reading {
        private static final int NO_FAULT = 0;
        private static final int NO_TEXT = 1;
        private static final int TOO_MANY_LETTERS = 2;
        private static final int TOO_MANY_UNITS = 3;

        private static final int BETWEEN_WORDS = 0;
        private static final int IN_UNIT = 1;
        private static final int BEHIND_JOINT = 2;
        private static final int BEHIND_END = 3;

        private final Units units = new Units();
        private int kind = NO_FAULT;
        private int place = NONE;

        Units units() {
            return units;
        }

        boolean hasFault() {
            return kind != NO_FAULT;
        }

        int kind() {
            return kind;
        }

        int place() {
            return place;
        }

        void read(Tape tape) {
            units.clear();
            kind = NO_FAULT;
            place = NONE;
            int state = BETWEEN_WORDS;
            for (int i = 0; i < tape.length() && kind == NO_FAULT; i++) {
                state = stateBehind(state, tape.byteAt(i), i);
            }
            if (kind == NO_FAULT && state == BEHIND_JOINT) {
                refuse(NO_TEXT, tape.length());
            }
        }

        private int stateBehind(int state, int sign, int i) {
            if (isLetter(sign)) {
                return stateBehindLetter(state, sign, i);
            }
            boolean blank = sign == BLANK || sign == LINE_FEED;
            if (blank && state != BEHIND_JOINT) {
                return BETWEEN_WORDS;
            }
            boolean end = sign == COMMA || sign == STOP || sign == SLASH;
            if (state == IN_UNIT && (end || sign == JOINT)) {
                units.close(sign);
                return end ? BEHIND_END : BEHIND_JOINT;
            }
            refuse(NO_TEXT, i);
            return state;
        }

        private int stateBehindLetter(int state, int letter, int i) {
            if (state == BEHIND_END) {
                refuse(NO_TEXT, i);
            } else if (state != IN_UNIT && !units.open()) {
                refuse(TOO_MANY_UNITS, i);
            } else if (!units.addLetter(letter)) {
                refuse(TOO_MANY_LETTERS, i);
            }
            return IN_UNIT;
        }

        private void refuse(int why, int where) {
            kind = why;
            place = where;
        }
    }

    /** LONG, SPREAD and what the STRAINS are made of. */
    private static final class Measures {
        // A letter's kind is its number. Signs that have no STRAIN above or below any other are of one kind.
        private static final int BLANK_KIND = 26;
        private static final int OTHER_KIND = 27;
        private static final int KINDS = 28;

        private static final int MOST_SHORT = 100;
        private static final int MOST_FOR_END = 10000;
        private static final int MOST_FOR_PLACE = 1000;

        private int longest = 30;
        private int spread = 1;
        private int shortest = 1;
        private int phrase = 20;
        private int inner = 60;
        private int cut = 100;
        private final int[] places = new int[KINDS * KINDS];

        Measures() {
            places[pair(BLANK_KIND, BLANK_KIND)] = 5;
        }

        static int kindOf(int sign) {
            if (isLetter(sign)) {
                return sign - FIRST_LETTER;
            }
            return sign == BLANK ? BLANK_KIND : OTHER_KIND;
        }

        int longest() {
            return longest;
        }

        int spread() {
            return spread;
        }

        boolean changeLine(int newLongest, int newSpread) {
            if (!within(newLongest, LEAST_LONG, MOST_LONG) || !within(newSpread, 1, MOST_SPREAD)) {
                return false;
            }
            longest = newLongest;
            spread = newSpread;
            return true;
        }

        boolean changeStrains(int newShortest, int newPhrase, int newInner, int newCut, int newRiver) {
            boolean endsCanBe = within(newPhrase, 0, MOST_FOR_END) && within(newInner, 0, MOST_FOR_END)
                    && within(newCut, 0, MOST_FOR_END);
            if (!endsCanBe || !within(newShortest, 0, MOST_SHORT) || !within(newRiver, 0, MOST_FOR_PLACE)) {
                return false;
            }
            shortest = newShortest;
            phrase = newPhrase;
            inner = newInner;
            cut = newCut;
            places[pair(BLANK_KIND, BLANK_KIND)] = newRiver;
            return true;
        }

        int changeLikeness(int a, int b, int value) {
            if (!isLetter(a) || !isLetter(b) || !within(value, 0, MOST_FOR_PLACE)) {
                return NONE;
            }
            int before = places[pair(kindOf(a), kindOf(b))];
            places[pair(kindOf(a), kindOf(b))] = value;
            places[pair(kindOf(b), kindOf(a))] = value;
            return before;
        }

        int strainOfPlace(int kindAbove, int kindBelow) {
            return places[pair(kindAbove, kindBelow)];
        }

        int strainOfLine(int signs, int behind) {
            int lack = longest - signs;
            return lack * lack * shortest + strainOfEnd(behind);
        }

        private int strainOfEnd(int behind) {
            switch (behind) {
                case STOP:
                    return 0;
                case COMMA:
                case SLASH:
                    return phrase;
                case JOINT:
                    return cut;
                default:
                    return inner;
            }
        }

        private static int pair(int kindAbove, int kindBelow) {
            return kindAbove * KINDS + kindBelow;
        }
    }

    /** All UNITS side by side in one endless row: each LINE is a piece of it, and a - where a WORD is cut. */
    private static final class Strip {
        private static final int MOST_SIGNS = MOST_UNITS * (MOST_LETTERS + 1 + MOST_SPREAD);

        private final int[] signs = new int[MOST_SIGNS];
        private final int[] kinds = new int[MOST_SIGNS];
        private final int[] begins = new int[MOST_UNITS];
        private final int[] ends = new int[MOST_UNITS];
        private final int[] behind = new int[MOST_UNITS];
        private int units;
        private int length;

        int units() {
            return units;
        }

        void lay(Units from, int spread) {
            units = 0;
            length = 0;
            for (int k = 0; k < from.count() && k < MOST_UNITS; k++) {
                if (k > 0 && !from.goesOn(k - 1)) {
                    addBlanks(spread);
                }
                addUnit(from, k);
            }
        }

        private void addBlanks(int spread) {
            for (int i = 0; i < spread; i++) {
                addSign(BLANK);
            }
        }

        private void addUnit(Units from, int k) {
            begins[k] = length;
            int size = from.signs(k);
            for (int i = 0; i < size; i++) {
                addSign(from.signAt(k, i));
            }
            ends[k] = length;
            behind[k] = from.behind(k);
            units++;
        }

        private void addSign(int sign) {
            if (length < MOST_SIGNS) {
                signs[length] = sign;
                kinds[length] = Measures.kindOf(sign);
                length++;
            }
        }

        private boolean holds(int first, int many) {
            return first >= 0 && many >= 1 && many <= units - first;
        }

        /** What stands behind a LINE's last UNIT. */
        int behindLine(int first, int many) {
            return holds(first, many) ? behind[first + many - 1] : BLANK;
        }

        /** The signs of a LINE without the - at its end. */
        int body(int first, int many) {
            return holds(first, many) ? ends[first + many - 1] - begins[first] : 0;
        }

        int signsOf(int first, int many) {
            return body(first, many) + (behindLine(first, many) == JOINT ? 1 : 0);
        }

        int signAt(int first, int many, int i) {
            if (i < 0 || i >= signsOf(first, many)) {
                return NONE;
            }
            return i < body(first, many) ? signs[begins[first] + i] : JOINT;
        }

        int beginOf(int unit) {
            return holds(unit, 1) ? begins[unit] : 0;
        }

        /** Of two LINES that begin at these signs; the lower one is farther on here, so its bound holds for both. */
        int strainOfPlaces(int upper, int lower, int from, int to, Measures measures) {
            int strain = 0;
            for (int place = from; place < to && lower + place < length; place++) {
                strain += measures.strainOfPlace(kinds[upper + place], kinds[lower + place]);
            }
            return strain;
        }
    }

    /** Finds THE SETTING, from the last UNIT back: the least STRAIN from each LINE on that can be. */
    private static final class Setter {
        private final Strip strip;
        private final Measures measures;
        private final int[] most = new int[MOST_UNITS];
        private final int[] least = new int[MOST_UNITS * MOST_LONG];
        private int chosen;

        Setter(Strip strip, Measures measures) {
            this.strip = strip;
            this.measures = measures;
        }

        /** Of a strip whose UNITS all fit alone; from its end on, as a LINE's weight needs those below it. */
        void weighLines() {
            for (int first = strip.units() - 1; first >= 0; first--) {
                int many = 0;
                while (many < MOST_LONG && fits(first, many + 1)) {
                    many++;
                    least[place(first, many)] = weigh(first, many);
                }
                most[first] = many;
            }
        }

        /** Puts THE SETTING's LINES: its STRAIN. */
        int putLines(Setting setting) {
            // Nothing stands above the first LINE: a width of 0 has no places.
            int strain = leastBelow(0, 0, 0);
            int first = 0;
            for (int k = 0; k < MOST_UNITS && first < strip.units(); k++) {
                int many = chosen;
                setting.addLine(first, many);
                leastBelow(first, strip.body(first, many), first + many);
                first += many;
            }
            return strain;
        }

        /** Where a LINE doesn't fit no longer one does: a UNIT has no fewer signs than the - that it stands for. */
        private boolean fits(int first, int many) {
            return first + many <= strip.units() && strip.signsOf(first, many) <= measures.longest();
        }

        private int weigh(int first, int many) {
            int next = first + many;
            if (next >= strip.units()) {
                return 0;
            }
            return measures.strainOfLine(strip.signsOf(first, many), strip.behindLine(first, many))
                    + leastBelow(first, strip.body(first, many), next);
        }

        /** The least STRAIN below a LINE; of several next LINES with it, the one with more UNITS is chosen. */
        private int leastBelow(int above, int width, int first) {
            chosen = 0;
            int best = 0;
            if (first >= strip.units()) {
                return best;
            }
            int upper = strip.beginOf(above);
            int lower = strip.beginOf(first);
            int done = 0;
            int places = 0;
            for (int many = 1; many <= most[first]; many++) {
                int end = Math.min(width, strip.body(first, many));
                places += strip.strainOfPlaces(upper, lower, done, end, measures);
                done = end;
                int sum = places + least[place(first, many)];
                if (chosen == 0 || sum <= best) {
                    best = sum;
                    chosen = many;
                }
            }
            return best;
        }

        private static int place(int first, int many) {
            return first * MOST_LONG + many - 1;
        }
    }

    /** The latest SETTING, with signs of its own, as THE TEXT may change below it. */
    private static final class Setting {
        private final Strip strip = new Strip();
        private final int[] firsts = new int[MOST_UNITS];
        private final int[] manys = new int[MOST_UNITS];
        private int count;
        private boolean there;
        private boolean ofText;

        Strip strip() {
            return strip;
        }

        boolean isThere() {
            return there;
        }

        boolean isOfText() {
            return there && ofText;
        }

        int count() {
            return count;
        }

        boolean has(int k) {
            return there && k >= 0 && k < count;
        }

        void drop() {
            there = false;
        }

        void outdate() {
            ofText = false;
        }

        void begin(Units units, int spread) {
            strip.lay(units, spread);
            count = 0;
            there = true;
            ofText = true;
        }

        void addLine(int first, int many) {
            if (count < MOST_UNITS) {
                firsts[count] = first;
                manys[count] = many;
                count++;
            }
        }

        int first(int k) {
            return has(k) ? firsts[k] : NONE;
        }

        int unitsIn(int k) {
            return has(k) ? manys[k] : NONE;
        }

        int signsIn(int k) {
            return has(k) ? strip.signsOf(firsts[k], manys[k]) : NONE;
        }

        int signAt(int k, int i) {
            return has(k) ? strip.signAt(firsts[k], manys[k], i) : NONE;
        }

        int lineOf(int unit) {
            for (int k = 0; k < count; k++) {
                if (unit >= firsts[k] && unit < firsts[k] + manys[k]) {
                    return k;
                }
            }
            return NONE;
        }

        int riversAt(int place, int n) {
            int found = 0;
            int blanks = 0;
            for (int k = 0; k < count; k++) {
                blanks = signAt(k, place) == BLANK ? blanks + 1 : 0;
                // Once a row, as soon as it is long enough, however long it gets.
                if (blanks - 1 == n) {
                    found++;
                }
            }
            return found;
        }
    }

    /** ROWS and TINTS as they are now; ROWS and TINTS below 2 are never kept, so that both may divide. */
    private static final class Pages {
        private static final int MOST_ROWS = 40;
        private static final int MOST_TINTS = 7;

        private int rows = 10;
        private int tints = 3;

        boolean change(int newRows, int newTints) {
            if (!within(newRows, 2, MOST_ROWS) || !within(newTints, 2, MOST_TINTS)) {
                return false;
            }
            rows = newRows;
            tints = newTints;
            return true;
        }

        int pageOf(int line) {
            return line / rows;
        }

        int tintOf(int line) {
            return (line % rows + line / rows) % tints;
        }
    }

    /** MARKS, each with its UNIT and the PAGE that it keeps. */
    private static final class Marks {
        private final int[] units = new int[MOST_MARKS];
        private final int[] kept = new int[MOST_MARKS];
        private int count;

        boolean has(int m) {
            return m >= 0 && m < count;
        }

        int add(int unit, int page) {
            if (count >= MOST_MARKS) {
                return NONE;
            }
            units[count] = unit;
            kept[count] = page;
            count++;
            return count - 1;
        }

        int unitOf(int m) {
            return has(m) ? units[m] : NONE;
        }

        int pageOf(int m) {
            return has(m) ? kept[m] : NONE;
        }

        void moveBehind(int k, int more) {
            for (int m = 0; m < count; m++) {
                if (units[m] > k) {
                    units[m] += more;
                }
            }
        }

        void drop() {
            count = 0;
        }
    }

    /** TESTS of a READER: THE BEST so far, held against one neighbour after the other. */
    private static final class Trials {
        private static final int MOST_LONGS = 11;
        private static final int MOST_SPREADS = 3;
        private static final int MOST_LEAD = 9;
        private static final int MOST_ANSWERS = 200;
        private static final int WAYS = 4;
        private static final int[] LONG_STEPS = {1, -1, 0, 0};
        private static final int[] SPREAD_STEPS = {0, 0, 1, -1};

        private static final int GOES_ON = 0;
        private static final int BEST_WON = 1;
        private static final int NEIGHBOUR_WON = 2;
        private static final int ENDED = 3;

        private final boolean[] beaten = new boolean[WAYS];
        private boolean begun;
        private int bestLong;
        private int bestSpread;
        private int lead = 2;
        private int way = NONE;
        private int ahead;
        private int answers;
        private int won;

        boolean haveBegun() {
            return begun;
        }

        int bestLongest() {
            return 20 + 4 * bestLong;
        }

        int bestSpread() {
            return 1 + bestSpread;
        }

        boolean begin(int i, int j, int newLead) {
            if (!isOnGrid(i, j) || !within(newLead, 1, MOST_LEAD)) {
                return false;
            }
            begun = true;
            lead = newLead;
            answers = 0;
            won = 0;
            ahead = 0;
            makeBest(i, j);
            way = nextWay();
            return true;
        }

        int tell(int what) {
            if (!begun) {
                return NONE;
            }
            switch (what) {
                case 0:
                    return bestLong;
                case 1:
                    return bestSpread;
                case 2:
                    return way == NONE ? NONE : longOn(way);
                case 3:
                    return way == NONE ? NONE : spreadOn(way);
                case 4:
                    return answers;
                case 5:
                    return won;
                default:
                    return NONE;
            }
        }

        int hear(boolean best) {
            if (way == NONE) {
                return NONE;
            }
            answers++;
            ahead += best ? 1 : -1;
            int outcome = settle();
            if (answers >= MOST_ANSWERS) {
                way = NONE;
            }
            return way == NONE ? ENDED : outcome;
        }

        private int settle() {
            if (Math.abs(ahead) < lead) {
                return GOES_ON;
            }
            boolean bestWon = ahead > 0;
            ahead = 0;
            won++;
            if (bestWon) {
                beaten[way] = true;
            } else {
                makeBest(longOn(way), spreadOn(way));
            }
            way = nextWay();
            return bestWon ? BEST_WON : NEIGHBOUR_WON;
        }

        private void makeBest(int i, int j) {
            bestLong = i;
            bestSpread = j;
            for (int w = 0; w < WAYS; w++) {
                beaten[w] = false;
            }
        }

        private int nextWay() {
            for (int w = 0; w < WAYS; w++) {
                if (!beaten[w] && isOnGrid(longOn(w), spreadOn(w))) {
                    return w;
                }
            }
            return NONE;
        }

        private int longOn(int w) {
            return bestLong + LONG_STEPS[w];
        }

        private int spreadOn(int w) {
            return bestSpread + SPREAD_STEPS[w];
        }

        private static boolean isOnGrid(int i, int j) {
            return within(i, 0, MOST_LONGS - 1) && within(j, 0, MOST_SPREADS - 1);
        }
    }
}
