import java.util.Arrays;

/**
 * Triples that come and go by numbers, and questions whose rows are told for each number.
 *
 * <p>Only what was said is kept. Rows are found anew when they are asked for, so that a change that comes
 * late, a pattern more or another window leaves nothing behind that would have to be mended.
 */
public final class ContinuousRows {
    public static final int BAD = -1;
    public static final int NO = -2;
    public static final int FULL = -3;

    private static final int MOST_NUMBERS = 62;
    private static final int MOST_THINGS = 400;
    private static final int MOST_QUESTIONS = 12;
    private static final int MOST_PATTERNS = 3;
    private static final int GREATEST_WINDOW = 62;

    private static final int VARIABLES = 4;
    private static final int VALUES = 16;
    private static final int ALL_VALUES = 0xFFFF;
    private static final int PREDICATES = 8;

    // A row's key in two parts: the fourth variable's value, and above it the other three variables' part.
    private static final int DIGIT_BITS = 4;
    private static final int WORD_BITS = 16;
    private static final int WORDS = VALUES * VALUES * VALUES;

    private static final int HAS = 0;
    private static final int CAME = 1;
    private static final int WENT = 2;

    private static final int SUM = 0;
    private static final int LEAST = 1;
    private static final int GREATEST = 2;

    private final int numbers;
    private final Log log = new Log();
    private final Question[] questions = new Question[MOST_QUESTIONS];
    private final Seen seen = new Seen();
    private final Search search = new Search(seen);
    private final RowSet rowsThen = new RowSet(WORDS);
    private final RowSet rowsBefore = new RowSet(WORDS);
    private final RowSet oneWord = new RowSet(1);
    private int latestNumber;
    private int questionCount;

    public ContinuousRows(int numbers) {
        this.numbers = 1 + Math.floorMod(numbers, MOST_NUMBERS);
    }

    public int change(int s, int p, int o, boolean comes) {
        if (!isTriple(s, p, o)) {
            return BAD;
        }
        if (log.isFull()) {
            return FULL;
        }
        int triple = tripleOf(s, p, o);
        boolean was = log.comesAt(log.lastOf(triple, latestNumber));
        log.say(latestNumber, triple, comes);
        return was == comes ? 0 : 1;
    }

    public int step() {
        if (latestNumber >= numbers - 1) {
            return FULL;
        }
        latestNumber++;
        return latestNumber;
    }

    public int question(int window) {
        if (!isWindow(window)) {
            return BAD;
        }
        if (questionCount >= MOST_QUESTIONS) {
            return FULL;
        }
        questions[questionCount] = new Question(window);
        questionCount++;
        return questionCount - 1;
    }

    public int pattern(int question, int s, int p, int o) {
        Question asked = find(question);
        if (asked == null || !isItem(s, VALUES) || !isItem(p, PREDICATES) || !isItem(o, VALUES)) {
            return BAD;
        }
        return asked.add(s, p, o) ? asked.patterns : FULL;
    }

    public int window(int question, int window) {
        Question asked = find(question);
        if (asked == null || !isWindow(window)) {
            return BAD;
        }
        int old = asked.width;
        asked.width = window;
        return old;
    }

    public int rows(int question, int number) {
        Question asked = find(question);
        if (asked == null || !isPast(number)) {
            return BAD;
        }
        return findRows(asked, number, HAS).count();
    }

    public int changed(int question, int number, boolean came) {
        Question asked = find(question);
        if (asked == null || !isPast(number)) {
            return BAD;
        }
        return findRows(asked, number, came ? CAME : WENT).count();
    }

    public int row(int question, int number, int which, int i) {
        Question asked = find(question);
        if (asked == null || !isPast(number) || which < HAS || which > WENT) {
            return BAD;
        }
        return findRows(asked, number, which).keyAt(i);
    }

    public int aggregate(int question, int number, int kind, int variable) {
        Question asked = find(question);
        if (asked == null || !isPast(number) || kind < SUM || kind > GREATEST
                || variable < 1 || variable > VARIABLES) {
            return BAD;
        }
        RowSet found = findRows(asked, number, HAS);
        if (kind == SUM) {
            return found.sumOf(variable);
        }
        return kind == LEAST ? found.leastOf(variable) : found.greatestOf(variable);
    }

    public int late(int number, int s, int p, int o, boolean comes) {
        if (!isTriple(s, p, o) || number < 0 || number >= latestNumber) {
            return BAD;
        }
        if (log.isFull()) {
            return FULL;
        }
        int triple = tripleOf(s, p, o);
        int old = log.lastOf(triple, number);
        int fresh = log.say(number, triple, comes);
        int until = log.heldUntil(fresh);
        int others = 0;
        for (int then = number; then <= latestNumber && then < until; then++) {
            if (areRowsOthers(then, triple, old, fresh)) {
                others++;
            }
        }
        return others;
    }

    public int still(int question) {
        Question asked = find(question);
        if (asked == null) {
            return BAD;
        }
        fill(rowsThen, asked, latestNumber);
        for (int number = latestNumber; number > 0; number--) {
            fill(rowsBefore, asked, number - 1);
            if (!rowsBefore.isSameAs(rowsThen)) {
                return number;
            }
        }
        return 0;
    }

    public int there(int number, int s, int p, int o) {
        if (!isPast(number) || !isTriple(s, p, o)) {
            return BAD;
        }
        return log.comesAt(log.lastOf(tripleOf(s, p, o), number)) ? 1 : 0;
    }

    public int age(int number, int s, int p, int o) {
        if (!isPast(number) || !isTriple(s, p, o)) {
            return BAD;
        }
        int last = log.lastOf(tripleOf(s, p, o), number);
        return log.comesAt(last) ? number - log.numberAt(last) : NO;
    }

    public int latest() {
        return latestNumber;
    }

    private static boolean isTriple(int s, int p, int o) {
        return s >= 0 && s < VALUES && p >= 0 && p < PREDICATES && o >= 0 && o < VALUES;
    }

    private static int tripleOf(int s, int p, int o) {
        return (s * PREDICATES + p) * VALUES + o;
    }

    private static boolean isItem(int item, int values) {
        return item >= -VARIABLES && item < values;
    }

    private static boolean isWindow(int window) {
        return window >= 0 && window <= GREATEST_WINDOW;
    }

    private boolean isPast(int number) {
        return number >= 0 && number <= latestNumber;
    }

    /** The question of that number, or null when there is none. */
    private Question find(int question) {
        return question >= 0 && question < questionCount ? questions[question] : null;
    }

    private void fill(RowSet rows, Question asked, int number) {
        rows.clear();
        seen.read(log, number, asked.width);
        search.begin(asked);
        search.run(asked, rows);
    }

    private RowSet findRows(Question asked, int number, int which) {
        fill(rowsThen, asked, number);
        if (which == HAS) {
            return rowsThen;
        }
        rowsBefore.clear();
        if (number > 0) {
            fill(rowsBefore, asked, number - 1);
        }
        if (which == CAME) {
            rowsThen.removeAll(rowsBefore);
            return rowsThen;
        }
        rowsBefore.removeAll(rowsThen);
        return rowsBefore;
    }

    /** Whether some question's rows are others at a number since the fresh thing stands there instead of the old. */
    private boolean areRowsOthers(int number, int triple, int old, int fresh) {
        for (int i = 0; i < questionCount; i++) {
            Question asked = questions[i];
            if (asked != null
                    && log.shows(old, number, asked.width) != log.shows(fresh, number, asked.width)
                    && hasRowThrough(asked, number, triple)) {
                return true;
            }
        }
        return false;
    }

    /**
     * Whether a row of the question would have the triple for one of its patterns, were the triple seen.
     * Just these rows are there with the triple and not without it, for a row says which triples it needs.
     */
    private boolean hasRowThrough(Question asked, int number, int triple) {
        for (int k = 0; k < asked.patterns; k++) {
            search.begin(asked);
            if (search.bind(asked, k, triple)) {
                oneWord.clear();
                seen.read(log, number, asked.width);
                seen.put(triple, true);
                search.run(asked, oneWord);
                if (oneWord.size > 0) {
                    return true;
                }
            }
        }
        return false;
    }

    /** All that was said, by its numbers, and at one number in the order in which it was said. */
    private static final class Log {
        final int[] saidAt = new int[MOST_THINGS];
        final int[] triples = new int[MOST_THINGS];
        final boolean[] comes = new boolean[MOST_THINGS];
        int size;

        boolean isFull() {
            return size >= MOST_THINGS;
        }

        /** Puts a thing behind all that was said at its number; its place, or -1 when the log is full. */
        int say(int number, int triple, boolean coming) {
            if (isFull()) {
                return -1;
            }
            int place = size;
            while (place > 0 && saidAt[place - 1] > number) {
                saidAt[place] = saidAt[place - 1];
                triples[place] = triples[place - 1];
                comes[place] = comes[place - 1];
                place--;
            }
            saidAt[place] = number;
            triples[place] = triple;
            comes[place] = coming;
            size++;
            return place;
        }

        /** The place of the last thing said of a triple up to a number, or -1 when nothing was said. */
        int lastOf(int triple, int number) {
            for (int place = size - 1; place >= 0; place--) {
                if (saidAt[place] <= number && triples[place] == triple) {
                    return place;
                }
            }
            return -1;
        }

        /** The first number at which a thing is no longer the last that was said of its triple. */
        int heldUntil(int place) {
            if (!isPlace(place)) {
                return 0;
            }
            for (int next = place + 1; next < size; next++) {
                if (triples[next] == triples[place]) {
                    return saidAt[next];
                }
            }
            return MOST_NUMBERS;
        }

        boolean comesAt(int place) {
            return isPlace(place) && comes[place];
        }

        int numberAt(int place) {
            return isPlace(place) ? saidAt[place] : 0;
        }

        /** Whether a triple is seen at a number through a window, when the thing at the place is its last. */
        boolean shows(int place, int number, int width) {
            return isPlace(place) && comes[place] && (width == 0 || number - saidAt[place] < width);
        }

        private boolean isPlace(int place) {
            return place >= 0 && place < size;
        }
    }

    /** The triples seen at one number through one window: for each s and p a bit for each o. */
    private static final class Seen {
        final int[] objects = new int[VALUES * PREDICATES];

        /** Goes through the things in their order, so that the last one of each triple is the one that stays. */
        void read(Log log, int number, int width) {
            Arrays.fill(objects, 0);
            for (int place = 0; place < log.size && log.saidAt[place] <= number; place++) {
                put(log.triples[place], log.shows(place, number, width));
            }
        }

        void put(int triple, boolean isSeen) {
            int at = triple / VALUES;
            if (at < 0 || at >= objects.length) {
                return;
            }
            int bit = 1 << triple % VALUES;
            objects[at] = isSeen ? objects[at] | bit : objects[at] & ~bit;
        }

        /** The bits of all o with which s and p are seen; none when s or p is no triple's. */
        int objectsOf(int s, int p) {
            if (s < 0 || s >= VALUES || p < 0 || p >= PREDICATES) {
                return 0;
            }
            return objects[s * PREDICATES + p];
        }
    }

    private static final class Question {
        final int[] items = new int[MOST_PATTERNS * 3];
        final int[] lastVariables = new int[MOST_PATTERNS];
        int width;
        int patterns;
        int variables;

        Question(int width) {
            this.width = width;
        }

        /** Adds a pattern; false when there is no place for it. */
        boolean add(int s, int p, int o) {
            if (patterns >= MOST_PATTERNS) {
                return false;
            }
            items[patterns * 3] = s;
            items[patterns * 3 + 1] = p;
            items[patterns * 3 + 2] = o;
            lastVariables[patterns] = -1 - Math.min(s, Math.min(p, o));
            patterns++;
            use(s);
            use(p);
            use(o);
            return true;
        }

        int itemAt(int pattern, int position) {
            int at = pattern * 3 + position;
            return at >= 0 && at < items.length ? items[at] : 0;
        }

        boolean uses(int variable) {
            return (variables >> variable & 1) != 0;
        }

        private void use(int item) {
            if (item < 0) {
                variables |= 1 << (-1 - item);
            }
        }
    }

    /**
     * Finds a question's rows: first it narrows for each variable the values that can be (bits), then it goes
     * through the first three variables' values, and has the fourth's all at once as the bits of one word.
     * Inside, variables are 0 .. 3 for -1 .. -4; one that stands in no pattern has the value 0 alone.
     */
    private static final class Search {
        final Seen seen;
        final int[] open = new int[VARIABLES];
        final int[] values = new int[VARIABLES];

        Search(Seen seen) {
            this.seen = seen;
        }

        void begin(Question asked) {
            for (int variable = 0; variable < VARIABLES; variable++) {
                open[variable] = asked.uses(variable) ? ALL_VALUES : 1;
            }
        }

        /** Leaves only the rows that have the triple for the pattern; false when it does not fit. */
        boolean bind(Question asked, int pattern, int triple) {
            int s = triple / VALUES / PREDICATES;
            int p = triple / VALUES % PREDICATES;
            int o = triple % VALUES;
            return keep(asked.itemAt(pattern, 0), 1 << s)
                    && keep(asked.itemAt(pattern, 1), 1 << p)
                    && keep(asked.itemAt(pattern, 2), 1 << o);
        }

        /** Adds the rows to those found, until found has no place. */
        void run(Question asked, RowSet found) {
            for (int pattern = 0; pattern < asked.patterns; pattern++) {
                if (!narrow(asked.itemAt(pattern, 0), asked.itemAt(pattern, 1), asked.itemAt(pattern, 2))) {
                    return;
                }
            }
            extend(asked, found, 0, 0);
        }

        /** Leaves the values with which some seen triple fits a pattern's items; false when none does. */
        private boolean narrow(int s, int p, int o) {
            int subjects = allowed(s);
            int predicates = allowed(p);
            int objects = allowed(o);
            int fittingS = 0;
            int fittingP = 0;
            int fittingO = 0;
            for (int i = 0; i < VALUES; i++) {
                if ((subjects >> i & 1) == 0) {
                    continue;
                }
                for (int j = 0; j < PREDICATES; j++) {
                    int fitting = (predicates >> j & 1) == 0 ? 0 : seen.objectsOf(i, j) & objects;
                    if (fitting != 0) {
                        fittingS |= 1 << i;
                        fittingP |= 1 << j;
                        fittingO |= fitting;
                    }
                }
            }
            return keep(s, fittingS) && keep(p, fittingP) && keep(o, fittingO);
        }

        /** Gives the variable each value that fits, and those behind it theirs; high is the key's part so far. */
        private void extend(Question asked, RowSet found, int variable, int high) {
            if (variable < 0 || variable >= VARIABLES) {
                return;
            }
            int fitting = open[variable];
            for (int pattern = 0; pattern < asked.patterns && fitting != 0; pattern++) {
                if (asked.lastVariables[pattern] == variable) {
                    fitting = filter(asked, pattern, variable, fitting);
                }
            }
            if (variable == VARIABLES - 1) {
                found.add(high, fitting);
                return;
            }
            for (int value = 0; value < VALUES && fitting >> value != 0 && !found.isFull(); value++) {
                if ((fitting >> value & 1) != 0) {
                    values[variable] = value;
                    extend(asked, found, variable + 1, high * VALUES + value);
                }
            }
        }

        /** Those of a variable's values by which a pattern, whose other variables have theirs, is seen. */
        private int filter(Question asked, int pattern, int variable, int candidates) {
            int item = -1 - variable;
            int s = asked.itemAt(pattern, 0);
            int p = asked.itemAt(pattern, 1);
            int o = asked.itemAt(pattern, 2);
            if (s != item && p != item) {
                return candidates & seen.objectsOf(valueOf(s), valueOf(p));
            }
            int fitting = 0;
            for (int value = 0; value < VALUES && candidates >> value != 0; value++) {
                if ((candidates >> value & 1) != 0) {
                    values[variable] = value;
                    fitting |= (seen.objectsOf(valueOf(s), valueOf(p)) >> valueOf(o) & 1) << value;
                }
            }
            return fitting;
        }

        private int valueOf(int item) {
            int variable = -1 - item;
            return variable >= 0 && variable < VARIABLES ? values[variable] : item;
        }

        private int allowed(int item) {
            int variable = -1 - item;
            return variable >= 0 && variable < VARIABLES ? open[variable] : 1 << item;
        }

        /** Leaves only these values of an item; false when none is left. */
        private boolean keep(int item, int these) {
            int variable = -1 - item;
            if (variable >= 0 && variable < VARIABLES) {
                open[variable] &= these;
            }
            return (allowed(item) & these) != 0;
        }
    }

    /**
     * Different keys in their order. A word has all those that differ in the fourth variable alone:
     * above, the three other variables' part of the key; in its 16 low bits, the fourth variable's values.
     */
    private static final class RowSet {
        final int[] words;
        int size;

        RowSet(int places) {
            words = new int[Math.max(places, 0)];
        }

        void clear() {
            size = 0;
        }

        boolean isFull() {
            return size >= words.length;
        }

        void add(int high, int fourth) {
            if (fourth != 0 && !isFull()) {
                words[size] = high << WORD_BITS | fourth;
                size++;
            }
        }

        /** Takes away the keys that the other set has. Both are in order, so one walk along both is enough. */
        void removeAll(RowSet other) {
            int kept = 0;
            int next = 0;
            for (int i = 0; i < size; i++) {
                int word = words[i];
                while (next < other.size && other.words[next] >> WORD_BITS < word >> WORD_BITS) {
                    next++;
                }
                if (next < other.size && other.words[next] >> WORD_BITS == word >> WORD_BITS) {
                    word &= ~(other.words[next] & ALL_VALUES);
                }
                if ((word & ALL_VALUES) != 0) {
                    words[kept] = word;
                    kept++;
                }
            }
            size = kept;
        }

        boolean isSameAs(RowSet other) {
            if (size != other.size) {
                return false;
            }
            for (int i = 0; i < size; i++) {
                if (words[i] != other.words[i]) {
                    return false;
                }
            }
            return true;
        }

        int count() {
            int count = 0;
            for (int i = 0; i < size; i++) {
                count += Integer.bitCount(words[i] & ALL_VALUES);
            }
            return count;
        }

        /** The key that has so many below it, or NO. */
        int keyAt(int below) {
            int left = below;
            for (int i = 0; i < size && left >= 0; i++) {
                int inWord = Integer.bitCount(words[i] & ALL_VALUES);
                if (left < inWord) {
                    return (words[i] >> WORD_BITS) * VALUES + bitAt(words[i], left);
                }
                left -= inWord;
            }
            return NO;
        }

        int sumOf(int variable) {
            int sum = 0;
            for (int i = 0; i < size; i++) {
                int values = valuesOf(words[i], variable);
                int times = variable < VARIABLES ? Integer.bitCount(words[i] & ALL_VALUES) : 1;
                for (int value = 0; value < VALUES && values >> value != 0; value++) {
                    sum += (values >> value & 1) * value * times;
                }
            }
            return sum;
        }

        int leastOf(int variable) {
            int values = allValuesOf(variable);
            return values == 0 ? NO : bitAt(values, 0);
        }

        int greatestOf(int variable) {
            int values = allValuesOf(variable);
            return values == 0 ? NO : bitAt(values, Integer.bitCount(values) - 1);
        }

        private int allValuesOf(int variable) {
            int values = 0;
            for (int i = 0; i < size; i++) {
                values |= valuesOf(words[i], variable);
            }
            return values;
        }

        /** The bits of a variable's (1 .. 4) values in a word's keys. */
        private static int valuesOf(int word, int variable) {
            if (variable >= VARIABLES) {
                return word & ALL_VALUES;
            }
            int high = word >> WORD_BITS;
            return 1 << (high >> DIGIT_BITS * (VARIABLES - 1 - variable) & VALUES - 1);
        }

        /** The place of the low bit that has so many low bits below it. */
        private static int bitAt(int bits, int below) {
            int left = below;
            for (int value = 0; value < VALUES; value++) {
                if ((bits >> value & 1) != 0) {
                    if (left == 0) {
                        return value;
                    }
                    left--;
                }
            }
            return 0;
        }
    }
}
