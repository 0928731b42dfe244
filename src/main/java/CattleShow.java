import java.util.Arrays;

/**
 * A cattle show: BEASTS, CLASSES with TEXTS, JUDGES and their ORDERS, and what follows from them.
 * The face checks every argument, so that the classes inside are only handed numbers that exist.
 */
public final class CattleShow {
    public static final int NONE = -1;

    private static final int MOST_BEASTS = 20;
    private static final int CLASSES = 6;
    private static final int JUDGES = 6;
    private static final int BREEDS = 4;
    private static final int SIRES = 10;
    private static final int HANDLERS = 10;
    private static final int MEASURES = 3;
    private static final int HIGHEST_AGE = 200;
    private static final int HIGHEST_MEASURE = 99;
    private static final int MOST_ENTERED = 8;

    private static final int TAPE_BYTES = 80;
    private static final int FEED_BYTES = 20;

    private static final int MOST_CLAUSES = 8;
    private static final int MOST_DIGITS = 4;
    private static final int HIGHEST_NUMBER = 9999;
    private static final int MOST_TERMS = 4;

    private static final int MISPLACED = 1;
    private static final int NO_SUCH_ONE = 2;
    private static final int NINTH_CLAUSE = 3;
    private static final int WRONG_WAY_ROUND = 3;

    private static final int CUTS = 3;
    private static final int HIGHEST_CUT = 15;
    private static final int FIRST_CUT = 3;
    private static final int CARD_PLACES = 4;
    private static final int FULL_CARD = 50;

    private static final int MOST_RINGS = 3;
    private static final int FIRST_RINGS = 2;
    private static final int TEAM_BEASTS = 3;
    private static final int BASE_PRICE = 100;
    private static final int PLACE_PRICE = 50;

    private final Tape tape = new Tape();
    private final Beast[] beasts = new Beast[MOST_BEASTS];
    private final ShowClass[] classes = new ShowClass[CLASSES];
    private final int[] barred = new int[JUDGES];
    private final Joiner joiner = new Joiner();
    private final Timetable timetable = new Timetable();
    private final Reasons reader = new Reasons();
    private ClassText spareText = new ClassText();
    private int beastCount = 0;
    private int rings = FIRST_RINGS;

    public CattleShow() {
        for (int c = 0; c < CLASSES; c++) {
            classes[c] = new ShowClass();
        }
    }

    public int feed(int a, int b, int c, int d, int e) {
        if (!tape.hasRoom()) {
            return NONE;
        }
        tape.append(a);
        tape.append(b);
        tape.append(c);
        tape.append(d);
        tape.append(e);
        return tape.length();
    }

    public int text(int c, int n) {
        ShowClass shown = classAt(c);
        if (shown == null || !tape.has(n)) {
            return NONE;
        }
        tape.startReading(n);
        int fault = spareText.readFrom(tape);
        tape.clear();
        if (fault == 0) {
            spareText = shown.swapText(spareText);
        }
        return fault;
    }

    public int beast(int breed, int age, int sire, int handler) {
        if (!isBelow(breed, BREEDS) || !isBelow(age, HIGHEST_AGE + 1) || !isBelow(sire, SIRES)
                || !isBelow(handler, HANDLERS) || beastCount >= MOST_BEASTS) {
            return NONE;
        }
        beasts[beastCount] = new Beast(breed, age, sire, handler);
        beastCount++;
        return beastCount - 1;
    }

    public boolean measure(int b, int m, int n) {
        Beast known = beastAt(b);
        if (known == null || !isBelow(m, MEASURES) || !isBelow(n, HIGHEST_MEASURE + 1)) {
            return false;
        }
        known.measures[m] = n;
        return true;
    }

    public int lets(int c, int b) {
        ShowClass shown = classAt(c);
        Beast known = beastAt(b);
        if (shown == null || known == null) {
            return NONE;
        }
        return shown.admits(known) ? 1 : 0;
    }

    public boolean enter(int c, int b) {
        if (lets(c, b) != 1) {
            return false;
        }
        ShowClass shown = classes[c];
        if (!shown.canTake(b)) {
            return false;
        }
        shown.take(b);
        joiner.join(shown);
        return true;
    }

    public boolean protest(int c, int b) {
        ShowClass shown = classAt(c);
        if (shown == null || beastAt(b) == null || !shown.holds(b)) {
            return false;
        }
        shown.putOut(b);
        joiner.join(shown);
        return true;
    }

    public boolean bar(int j, int b) {
        if (!isBelow(j, JUDGES) || beastAt(b) == null || (barred[j] & 1 << b) != 0) {
            return false;
        }
        barred[j] |= 1 << b;
        return true;
    }

    public boolean order(int j, int c) {
        ShowClass shown = classAt(c);
        if (!isBelow(j, JUDGES) || shown == null || shown.size == 0 || !tape.has(shown.size)) {
            return false;
        }
        boolean told = (barred[j] & shown.entered) == 0 && tape.namesEachOf(shown.entered);
        if (told) {
            shown.keepOrder(j, tape);
            joiner.join(shown);
        }
        tape.clear();
        return told;
    }

    public int placed(int c, int place) {
        ShowClass shown = classAt(c);
        if (shown == null || place < 1 || place > shown.size) {
            return NONE;
        }
        return shown.joined[place - 1];
    }

    public int swaps(int c) {
        ShowClass shown = classAt(c);
        return shown == null ? NONE : shown.fewestSwaps;
    }

    public int ring(int c, int what) {
        ShowClass shown = classAt(c);
        if (shown == null || !isBelow(what, 3)) {
            return NONE;
        }
        return joiner.findInRing(shown, what);
    }

    public boolean cut(int c, int i, int n) {
        ShowClass shown = classAt(c);
        if (shown == null || i < 1 || i > CUTS || !isBelow(n, HIGHEST_CUT + 1)) {
            return false;
        }
        shown.cuts[i - 1] = n;
        return true;
    }

    public int card(int c) {
        ShowClass shown = classAt(c);
        if (shown == null || shown.size < 2 || !tape.has(shown.cardLength())) {
            return NONE;
        }
        int points = tape.namesEachOf(shown.cardBeasts()) ? shown.scoreCard(tape) : NONE;
        tape.clear();
        return points;
    }

    public int reasons(int c, int n) {
        ShowClass shown = classAt(c);
        if (shown == null || !tape.has(n)) {
            return NONE;
        }
        tape.startReading(n);
        int answer = reader.score(tape, shown, beasts);
        tape.clear();
        return answer;
    }

    public boolean sand(int n) {
        if (n < 1 || n > MOST_RINGS) {
            return false;
        }
        rings = n;
        return true;
    }

    public int hour(int c) {
        if (!isBelow(c, CLASSES)) {
            return NONE;
        }
        timetable.plan(classes, beasts, rings);
        return timetable.hours[c];
    }

    public int team(int sire) {
        if (!isBelow(sire, SIRES)) {
            return NONE;
        }
        int found = 0;
        int sum = 0;
        // Beasts are taken by their least places, the low ones first, until there are three.
        for (int place = 1; place <= MOST_ENTERED; place++) {
            for (int b = 0; b < beastCount && found < TEAM_BEASTS; b++) {
                if (beasts[b].sire == sire && leastPlace(b) == place) {
                    found++;
                    sum += place;
                }
            }
        }
        return found == TEAM_BEASTS ? sum : NONE;
    }

    public int price(int b) {
        if (beastAt(b) == null) {
            return NONE;
        }
        int sum = BASE_PRICE;
        for (int c = 0; c < CLASSES; c++) {
            int place = classes[c].placeOf(b);
            if (place > 0) {
                sum += PLACE_PRICE / place;
            }
        }
        return sum;
    }

    public int look(int b, int what) {
        Beast known = beastAt(b);
        if (known == null) {
            return NONE;
        }
        if (what >= 4 && what < 4 + MEASURES) {
            return known.measures[what - 4];
        }
        if (what >= 10 && what < 10 + CLASSES) {
            return classes[what - 10].placeOf(b);
        }
        switch (what) {
            case 0:
                return known.breed;
            case 1:
                return known.age;
            case 2:
                return known.sire;
            case 3:
                return known.handler;
            case 7:
                return classesOf(b);
            default:
                return NONE;
        }
    }

    public int count(int what) {
        if (what >= 10 && what < 10 + CLASSES) {
            return classes[what - 10].size;
        }
        if (what >= 20 && what < 20 + CLASSES) {
            return classes[what - 20].countOrders();
        }
        switch (what) {
            case 0:
                return beastCount;
            case 1:
                return rings;
            case 2:
                return tape.length();
            case 3:
                timetable.plan(classes, beasts, rings);
                return timetable.lastHour();
            default:
                return NONE;
        }
    }

    private static boolean isBelow(int n, int bound) {
        return n >= 0 && n < bound;
    }

    private ShowClass classAt(int c) {
        return isBelow(c, CLASSES) ? classes[c] : null;
    }

    private Beast beastAt(int b) {
        return isBelow(b, beastCount) ? beasts[b] : null;
    }

    private int leastPlace(int b) {
        int least = NONE;
        for (int c = 0; c < CLASSES; c++) {
            int place = classes[c].placeOf(b);
            if (place != NONE && (least == NONE || place < least)) {
                least = place;
            }
        }
        return least;
    }

    private int classesOf(int b) {
        int sum = 0;
        for (int c = 0; c < CLASSES; c++) {
            if (classes[c].holds(b)) {
                sum++;
            }
        }
        return sum;
    }

    private static final class Beast {
        final int breed;
        final int age;
        final int sire;
        final int handler;
        final int[] measures = new int[MEASURES];

        Beast(int breed, int age, int sire, int handler) {
            this.breed = breed;
            this.age = age;
            this.sire = sire;
            this.handler = handler;
        }
    }

    /** The bytes that were fed, and a reader's place in the first ones of them. */
    private static final class Tape {
        private static final int END = -1;

        private final int[] bytes = new int[TAPE_BYTES];
        private int filled = 0;
        private int readable = 0;
        private int at = 0;

        int length() {
            return filled;
        }

        boolean hasRoom() {
            return filled + FEED_BYTES <= TAPE_BYTES;
        }

        boolean has(int n) {
            return n >= 0 && n <= filled;
        }

        void append(int word) {
            for (int shift = 24; shift >= 0 && filled < TAPE_BYTES; shift -= 8) {
                bytes[filled] = word >>> shift & 255;
                filled++;
            }
        }

        void clear() {
            filled = 0;
            startReading(0);
        }

        int byteAt(int i) {
            return isBelow(i, filled) ? bytes[i] : END;
        }

        /** Whether the first bytes are the BEASTS of a set (a bit for each), each of them once. */
        boolean namesEachOf(int set) {
            int left = set;
            int wanted = Integer.bitCount(set);
            for (int i = 0; i < wanted; i++) {
                int b = byteAt(i);
                // A shift looks at five bits of its width only: 32 would pass for BEAST 0.
                if (!isBelow(b, MOST_BEASTS) || (left & 1 << b) == 0) {
                    return false;
                }
                left &= ~(1 << b);
            }
            return true;
        }

        void startReading(int n) {
            at = 0;
            readable = has(n) ? n : 0;
        }

        int place() {
            return at;
        }

        boolean isAtEnd() {
            return at >= readable;
        }

        int peek() {
            return at < readable ? bytes[at] : END;
        }

        void skip() {
            if (at < readable) {
                at++;
            }
        }

        boolean skipIf(char wanted) {
            boolean same = peek() == wanted;
            if (same) {
                skip();
            }
            return same;
        }

        boolean isAtDigit() {
            return peek() >= '0' && peek() <= '9';
        }

        /** The number here; NONE if there is no digit. A digit too many is left standing. */
        int readNumber() {
            if (!isAtDigit()) {
                return NONE;
            }
            int number = 0;
            for (int digits = 0; digits < MOST_DIGITS && isAtDigit(); digits++) {
                number = number * 10 + peek() - '0';
                skip();
            }
            return number;
        }

        int faultHere(int kind) {
            return faultAt(kind, at);
        }

        int faultAt(int kind, int place) {
            return 100 * kind + place;
        }
    }

    /**
     * What a TEXT asks. All CLAUSES must hold and each one only narrows what is let in,
     * so they are kept as one set of BREEDS and one span for each number of a BEAST.
     */
    private static final class ClassText {
        private static final int AGE = 0;
        private static final int FIRST_MEASURE = 1;
        private static final int SPANS = FIRST_MEASURE + MEASURES;
        private static final int ALL_BREEDS = (1 << BREEDS) - 1;

        private final int[] least = new int[SPANS];
        private final int[] most = new int[SPANS];
        private int breeds = ALL_BREEDS;

        ClassText() {
            letAll();
        }

        boolean admits(Beast known) {
            if ((breeds & 1 << known.breed) == 0 || !isWithin(AGE, known.age)) {
                return false;
            }
            for (int m = 0; m < MEASURES; m++) {
                if (!isWithin(FIRST_MEASURE + m, known.measures[m])) {
                    return false;
                }
            }
            return true;
        }

        /** Reads a TEXT in place of the one that was here: 0, or the FAULT with its place. */
        int readFrom(Tape tape) {
            letAll();
            if (tape.isAtEnd()) {
                return 0;
            }
            for (int clauses = 0; clauses < MOST_CLAUSES; clauses++) {
                int fault = readClause(tape);
                if (fault != 0) {
                    return fault;
                }
                if (tape.isAtEnd()) {
                    return 0;
                }
                if (!tape.skipIf(';')) {
                    return tape.faultHere(MISPLACED);
                }
            }
            return tape.faultHere(isClauseLetter(tape.peek()) ? NINTH_CLAUSE : MISPLACED);
        }

        private void letAll() {
            breeds = ALL_BREEDS;
            Arrays.fill(least, 0);
            Arrays.fill(most, HIGHEST_NUMBER);
        }

        private boolean isWithin(int span, int n) {
            return least[span] <= n && n <= most[span];
        }

        private static boolean isClauseLetter(int letter) {
            return letter == 'b' || letter == 'f' || letter == 't' || letter == 'm';
        }

        private int readClause(Tape tape) {
            if (tape.skipIf('b')) {
                return readBreeds(tape);
            }
            if (tape.skipIf('f')) {
                return readLeast(tape, AGE, 0);
            }
            if (tape.skipIf('t')) {
                return readMost(tape, AGE, 0);
            }
            if (tape.skipIf('m')) {
                return readMeasure(tape);
            }
            return tape.faultHere(MISPLACED);
        }

        private int readBreeds(Tape tape) {
            if (!tape.isAtDigit()) {
                return tape.faultHere(MISPLACED);
            }
            int named = 0;
            // A fifth one is left standing, for the reader of CLAUSES to find misplaced.
            for (int i = 0; i < BREEDS && tape.isAtDigit(); i++) {
                int breed = tape.peek() - '0';
                if (breed >= BREEDS) {
                    return tape.faultHere(NO_SUCH_ONE);
                }
                named |= 1 << breed;
                tape.skip();
            }
            breeds &= named;
            return 0;
        }

        private int readMeasure(Tape tape) {
            if (!tape.isAtDigit()) {
                return tape.faultHere(MISPLACED);
            }
            int m = tape.peek() - '0';
            if (m >= MEASURES) {
                return tape.faultHere(NO_SUCH_ONE);
            }
            tape.skip();
            if (tape.skipIf('>')) {
                return readLeast(tape, FIRST_MEASURE + m, 1);
            }
            if (tape.skipIf('<')) {
                return readMost(tape, FIRST_MEASURE + m, 1);
            }
            return tape.faultHere(MISPLACED);
        }

        private int readLeast(Tape tape, int span, int above) {
            int n = tape.readNumber();
            if (n == NONE) {
                return tape.faultHere(MISPLACED);
            }
            least[span] = Math.max(least[span], n + above);
            return 0;
        }

        private int readMost(Tape tape, int span, int below) {
            int n = tape.readNumber();
            if (n == NONE) {
                return tape.faultHere(MISPLACED);
            }
            most[span] = Math.min(most[span], n - below);
            return 0;
        }
    }

    private static final class ShowClass {
        /** Who is ENTERED, a bit for each BEAST; of so many. */
        int entered = 0;
        int size = 0;
        private int out = 0;
        private ClassText asked = new ClassText();
        /** An ORDER keeps who went out after it was told: readers pass over those. */
        final int[][] orders = new int[JUDGES][MOST_ENTERED];
        /** How long each JUDGE's ORDER was when it was told; 0 if none counts. */
        final int[] orderLengths = new int[JUDGES];
        final int[] joined = new int[MOST_ENTERED];
        int fewestSwaps = 0;
        final int[] cuts = new int[CUTS];

        ShowClass() {
            Arrays.fill(cuts, FIRST_CUT);
        }

        ClassText swapText(ClassText next) {
            ClassText former = asked;
            asked = next;
            return former;
        }

        boolean admits(Beast known) {
            return asked.admits(known);
        }

        boolean holds(int b) {
            return (entered & 1 << b) != 0;
        }

        boolean canTake(int b) {
            return size < MOST_ENTERED && ((entered | out) & 1 << b) == 0;
        }

        void take(int b) {
            entered |= 1 << b;
            size++;
            Arrays.fill(orderLengths, 0);
        }

        void putOut(int b) {
            entered &= ~(1 << b);
            out |= 1 << b;
            size--;
        }

        void keepOrder(int j, Tape tape) {
            for (int i = 0; i < size; i++) {
                orders[j][i] = tape.byteAt(i);
            }
            orderLengths[j] = size;
        }

        int countOrders() {
            int counted = 0;
            for (int j = 0; j < JUDGES; j++) {
                if (orderLengths[j] > 0) {
                    counted++;
                }
            }
            return counted;
        }

        int placeOf(int b) {
            for (int i = 0; i < size; i++) {
                if (joined[i] == b) {
                    return i + 1;
                }
            }
            return NONE;
        }

        int cardLength() {
            return Math.min(size, CARD_PLACES);
        }

        int cardBeasts() {
            int set = 0;
            for (int i = 0; i < cardLength(); i++) {
                set |= 1 << joined[i];
            }
            return set;
        }

        /** POINTS of the CARD that the tape begins with, which is known to be a row of its BEASTS. */
        int scoreCard(Tape tape) {
            int points = FULL_CARD;
            for (int i = 0; i < cardLength(); i++) {
                for (int k = i + 1; k < cardLength(); k++) {
                    points -= cutsBetween(placeOf(tape.byteAt(k)), placeOf(tape.byteAt(i)));
                }
            }
            return Math.max(points, 0);
        }

        /** All CUTS from one PLACE down to another: none if the other is not behind it. */
        private int cutsBetween(int from, int to) {
            int sum = 0;
            for (int place = Math.max(from, 1); place < to && place <= CUTS; place++) {
                sum += cuts[place - 1];
            }
            return sum;
        }
    }

    /** Joins the ORDERS of one CLASS after another; its rows are kept so that no join makes new ones. */
    private static final class Joiner {
        private static final int SETS = 1 << MOST_ENTERED;
        /** More than any row can have. */
        private static final int MORE_SWAPS = JUDGES * MOST_ENTERED * MOST_ENTERED;

        /** Who is ENTERED, by numbers; below, each one stands under its slot in this row. */
        private final int[] members = new int[MOST_ENTERED];
        private final int[] slots = new int[MOST_BEASTS];
        private int size = 0;
        /** In how many ORDERS the first stands ahead of the second. */
        private final int[][] ahead = new int[MOST_ENTERED][MOST_ENTERED];
        /** How often those of a set (a bit for each slot) stand ahead of one in the ORDERS. */
        private final int[][] lost = new int[MOST_ENTERED][SETS];
        /** The fewest SWAPS that a row of a set can have. */
        private final int[] fewest = new int[SETS];

        void join(ShowClass shown) {
            tally(shown);
            sumLost();
            findFewest();
            int left = (1 << size) - 1;
            shown.fewestSwaps = fewest[left];
            for (int place = 0; place < size; place++) {
                int first = leastFirst(left);
                shown.joined[place] = members[first];
                left &= ~(1 << first);
            }
        }

        int findInRing(ShowClass shown, int what) {
            tally(shown);
            for (int a = 0; a < size; a++) {
                for (int b = 0; b < size; b++) {
                    for (int c = 0; c < size && beats(a, b); c++) {
                        if (beats(b, c) && beats(c, a)) {
                            return members[what == 0 ? a : what == 1 ? b : c];
                        }
                    }
                }
            }
            return NONE;
        }

        private boolean beats(int a, int b) {
            return ahead[a][b] > ahead[b][a];
        }

        private void tally(ShowClass shown) {
            size = 0;
            for (int b = 0; b < MOST_BEASTS; b++) {
                slots[b] = NONE;
                if (shown.holds(b) && size < MOST_ENTERED) {
                    members[size] = b;
                    slots[b] = size;
                    size++;
                }
            }
            for (int a = 0; a < size; a++) {
                Arrays.fill(ahead[a], 0);
            }
            for (int j = 0; j < JUDGES; j++) {
                tallyOrder(shown.orders[j], shown.orderLengths[j]);
            }
        }

        private void tallyOrder(int[] row, int length) {
            for (int i = 0; i < length; i++) {
                int first = slots[row[i]];
                for (int k = i + 1; k < length && first != NONE; k++) {
                    int second = slots[row[k]];
                    if (second != NONE) {
                        ahead[first][second]++;
                    }
                }
            }
        }

        private void sumLost() {
            for (int b = 0; b < size; b++) {
                for (int top = 0; top < size; top++) {
                    for (int rest = 0; rest < 1 << top; rest++) {
                        lost[b][rest | 1 << top] = lost[b][rest] + ahead[top][b];
                    }
                }
            }
        }

        private void findFewest() {
            for (int set = 1; set < 1 << size; set++) {
                int least = MORE_SWAPS;
                for (int b = 0; b < size; b++) {
                    if ((set & 1 << b) != 0) {
                        least = Math.min(least, swapsWithFirst(set, b));
                    }
                }
                fewest[set] = least;
            }
        }

        private int swapsWithFirst(int set, int b) {
            return lost[b][set] + fewest[set & ~(1 << b)];
        }

        /** The least of a set with which a row of fewest SWAPS can begin. */
        private int leastFirst(int set) {
            for (int b = 0; b < size; b++) {
                if ((set & 1 << b) != 0 && swapsWithFirst(set, b) == fewest[set]) {
                    return b;
                }
            }
            return 0;
        }
    }

    /** Reads REASONS and holds them against the MEASURES. */
    private static final class Reasons {
        private int points = 0;

        /** POINTS, or the FAULT with its place, below 0. */
        int score(Tape tape, ShowClass shown, Beast[] beasts) {
            points = 0;
            int fault = readPairs(tape, shown, beasts);
            return fault != 0 ? -fault : Math.max(points, 0);
        }

        private int readPairs(Tape tape, ShowClass shown, Beast[] beasts) {
            for (int pairs = 0; pairs < TAPE_BYTES; pairs++) {
                int fault = readPair(tape, shown, beasts);
                if (fault != 0) {
                    return fault;
                }
                if (tape.isAtEnd()) {
                    return 0;
                }
                if (!tape.skipIf(';')) {
                    return tape.faultHere(MISPLACED);
                }
            }
            return tape.faultHere(MISPLACED);
        }

        private int readPair(Tape tape, ShowClass shown, Beast[] beasts) {
            int start = tape.place();
            int first = placeNamed(tape);
            int fault = faultOfPlace(tape, first, shown.size);
            if (fault != 0) {
                return fault;
            }
            tape.skip();
            if (!tape.skipIf('>')) {
                return tape.faultHere(MISPLACED);
            }
            int second = placeNamed(tape);
            fault = faultOfPlace(tape, second, shown.size);
            if (fault != 0) {
                return fault;
            }
            if (second == first) {
                return tape.faultHere(NO_SUCH_ONE);
            }
            tape.skip();
            if (first > second) {
                return tape.faultAt(WRONG_WAY_ROUND, start);
            }
            if (!tape.skipIf(':')) {
                return tape.faultHere(MISPLACED);
            }
            return readTerms(tape, beasts[shown.joined[first - 1]], beasts[shown.joined[second - 1]]);
        }

        private static int placeNamed(Tape tape) {
            return tape.peek() - 'a' + 1;
        }

        private static int faultOfPlace(Tape tape, int place, int places) {
            if (place < 1 || place > MOST_ENTERED) {
                return tape.faultHere(MISPLACED);
            }
            return place > places ? tape.faultHere(NO_SUCH_ONE) : 0;
        }

        private int readTerms(Tape tape, Beast first, Beast second) {
            // A fifth one is left standing, for the reader of PAIRS to find misplaced.
            for (int terms = 0; terms < MOST_TERMS && (terms == 0 || isAtTerm(tape)); terms++) {
                boolean grants = tape.skipIf('-');
                if (!isAtMeasure(tape)) {
                    return tape.faultHere(MISPLACED);
                }
                int m = tape.peek() - '0';
                tape.skip();
                int more = first.measures[m] - second.measures[m];
                points += (grants ? more < 0 : more > 0) ? 2 : -1;
            }
            return 0;
        }

        private static boolean isAtTerm(Tape tape) {
            return tape.peek() == '-' || isAtMeasure(tape);
        }

        private static boolean isAtMeasure(Tape tape) {
            return isBelow(tape.peek() - '0', MEASURES);
        }
    }

    /** The HOURS of the CLASSES; there are never more HOURS than CLASSES. */
    private static final class Timetable {
        /** The HANDLERS of each CLASS, a bit for each: 0 if it has no BEASTS, and so no HOUR. */
        private final int[] handlers = new int[CLASSES];
        final int[] hours = new int[CLASSES];
        private final int[] busyHandlers = new int[CLASSES];
        private final int[] busyRings = new int[CLASSES];

        void plan(ShowClass[] classes, Beast[] beasts, int rings) {
            for (int c = 0; c < CLASSES; c++) {
                handlers[c] = handlersOf(classes[c], beasts);
                hours[c] = NONE;
                busyHandlers[c] = 0;
                busyRings[c] = 0;
            }
            boolean fits = false;
            for (int last = 0; last < CLASSES && !fits; last++) {
                fits = fitFrom(this, 0, last, rings);
            }
        }

        int lastHour() {
            int last = NONE;
            for (int c = 0; c < CLASSES; c++) {
                last = Math.max(last, hours[c]);
            }
            return last;
        }

        private static int handlersOf(ShowClass shown, Beast[] beasts) {
            int set = 0;
            for (int i = 0; i < shown.size; i++) {
                set |= 1 << beasts[shown.joined[i]].handler;
            }
            return set;
        }

        /** Early HOURS are tried first, so that the first row that fits is the least one. */
        private static boolean fitFrom(Timetable plan, int c, int last, int rings) {
            if (c >= CLASSES) {
                return true;
            }
            int wanted = plan.handlers[c];
            if (wanted == 0) {
                return fitFrom(plan, c + 1, last, rings);
            }
            for (int hour = 0; hour <= last; hour++) {
                if (plan.busyRings[hour] < rings && (plan.busyHandlers[hour] & wanted) == 0) {
                    plan.hours[c] = hour;
                    plan.busyRings[hour]++;
                    plan.busyHandlers[hour] |= wanted;
                    if (fitFrom(plan, c + 1, last, rings)) {
                        return true;
                    }
                    plan.busyRings[hour]--;
                    plan.busyHandlers[hour] &= ~wanted;
                }
            }
            return false;
        }
    }
}
