import java.util.Arrays;

/**
 * A keeper of hidden numbers of people, who answers askers' sums, counts, greatest and least ones, one by one: what
 * each asker could now work out is kept exact, over all that might be; an answer is refused ahead of it, whatever it
 * would be, if some answer that could be would let anyone's number be known too closely; so a refusal tells nothing.
 */
public final class SumsThatTell {
    public static final int NONE = -1;

    private static final int MAX_PEOPLE = 8;
    private static final int MAX_NUMBERS = 10;
    private static final int MAX_VALUE = 20;
    private static final int MAX_TABLES = 4096;
    private static final int MAX_TOTAL = 60;
    private static final int MAX_ASKS = 200;
    private static final int MAX_WISHES = 8;
    private static final int ASKERS = 4;
    private static final int IMAGES = 3;

    private static final int SUM = 0;
    private static final int COUNT = 1;
    private static final int GREATEST = 2;
    private static final int LEAST = 3;

    private static final int IS_REFUSED = 0;
    private static final int IS_GRANTED = 1;
    private static final int IS_FOLLOWING = 2;
    private static final int REFUSED = -2;

    private static final int ASK_PARTS = 5;
    private static final int WORD_BITS = 64;
    // No answer is above 60, the limit of the greatest values together, so that six bits hold any.
    private static final int ANSWER_BITS = 6;
    private static final int ANSWERS = 1 << ANSWER_BITS;

    // All rows are made here, for as many tables as there can be: again() may bring fewer tables back, so rows that
    // grow with the tables would be made anew time after time. No call makes anything.
    private final State now = new State();
    private final State[] images = new State[IMAGES];
    private final boolean[] isTaken = new boolean[IMAGES];
    private final Sheet sheet = new Sheet();
    private final Sorter sorter = new Sorter();

    public SumsThatTell() {
        for (int k = 0; k < IMAGES; k++) {
            images[k] = new State();
        }
    }

    public int person(int value, int least, int greatest, int need) {
        Numbers numbers = now.numbers;
        if (numbers.people >= MAX_PEOPLE || least < 0 || least > greatest || greatest > MAX_VALUE) {
            return NONE;
        }
        if (need < 1 || need > greatest - least + 1 || !numbers.hasRoomFor(value, least, greatest)) {
            return NONE;
        }
        int person = numbers.people;
        numbers.people++;
        now.addNumber(person, value, least, greatest, need);
        return person;
    }

    public int change(int person, int value) {
        Numbers numbers = now.numbers;
        if (person < 0 || person >= numbers.people) {
            return NONE;
        }
        int old = numbers.current[person];
        int least = numbers.least[old];
        int greatest = numbers.greatest[old];
        if (!numbers.hasRoomFor(value, least, greatest)) {
            return NONE;
        }
        now.addNumber(person, value, least, greatest, numbers.need[old]);
        return numbers.current[person];
    }

    public int ask(int asker, int kind, int set, int extra) {
        if (!isAsker(asker) || !isQuestion(kind, extra) || now.asks.size >= MAX_ASKS) {
            return NONE;
        }
        int people = now.numbers.onlyPeople(set);
        int answer = REFUSED;
        if (judge(asker, kind, people, extra) != IS_REFUSED) {
            answer = sheet.answers[now.numbers.hiddenTable()];
            now.knowledge.keepOnly(asker, now.numbers.tableCount, sheet.answers, answer);
        }
        now.asks.add(asker, kind, people, extra, answer);
        return answer;
    }

    public int would(int asker, int kind, int set, int extra) {
        if (!isAsker(asker) || !isQuestion(kind, extra)) {
            return NONE;
        }
        return judge(asker, kind, now.numbers.onlyPeople(set), extra);
    }

    public boolean join(int a, int b) {
        if (!isAsker(a) || !isAsker(b)) {
            return false;
        }
        return now.knowledge.unite(a, b);
    }

    public int knows(int asker, int number, int what) {
        if (!isAsker(asker) || number < 0 || number >= now.numbers.size) {
            return NONE;
        }
        int values = now.numbers.valuesIn(number, seenBy(asker));
        int least = now.numbers.least[number];
        switch (what) {
            case 0:
                return least + lowestBit(values);
            case 1:
                return least + highestBit(values);
            case 2:
                return Integer.bitCount(values);
            case 3:
                return highestBit(values) - lowestBit(values) + 1;
            default:
                return NONE;
        }
    }

    public int tables(int asker) {
        return isAsker(asker) ? now.knowledge.tablesLeft(asker) : NONE;
    }

    public boolean broken(int asker) {
        return isAsker(asker) && !now.numbers.areSafe(seenBy(asker));
    }

    public int tell(int k, int what) {
        Numbers numbers = now.numbers;
        int limit = what == 0 ? numbers.people : numbers.size;
        if (k < 0 || k >= limit) {
            return NONE;
        }
        switch (what) {
            case 0:
                return numbers.current[k];
            case 1:
                return numbers.owner[k];
            case 2:
                return numbers.least[k];
            case 3:
                return numbers.greatest[k];
            case 4:
                return numbers.need[k];
            case 5:
                return numbers.isCurrent(k) ? 1 : 0;
            case 6:
                return numbers.value[k];
            default:
                return NONE;
        }
    }

    public int asked(int k, int what) {
        if (k < 0 || k >= now.asks.size || what < 0 || what >= ASK_PARTS) {
            return NONE;
        }
        return now.asks.parts[what][k];
    }

    public int wish(int kind, int set, int extra) {
        if (!isQuestion(kind, extra) || now.wishes.size >= MAX_WISHES) {
            return NONE;
        }
        return now.wishes.add(kind, now.numbers.onlyPeople(set), extra);
    }

    public void clear() {
        now.wishes.size = 0;
    }

    public int most(int asker) {
        if (!isAsker(asker)) {
            return NONE;
        }
        answerWishes(asker);
        return largestGranted(sorter, 0, 0, now.wishes.size, 0);
    }

    public boolean together(int asker, int wishes) {
        if (!isAsker(asker) || wishes < 0 || wishes >= 1 << now.wishes.size) {
            return false;
        }
        // The document counts the empty set as granted even to an asker who knows too much already.
        if (wishes == 0) {
            return true;
        }
        answerWishes(asker);
        return sorter.isGranted(wishes);
    }

    public int count(int what) {
        switch (what) {
            case 0:
                return now.numbers.people;
            case 1:
                return now.numbers.size;
            case 2:
                return now.numbers.tableCount;
            case 3:
                return now.asks.size;
            case 4:
                return now.asks.refused;
            case 5:
                return now.wishes.size;
            case 6:
                return now.knowledge.circles();
            default:
                return NONE;
        }
    }

    public boolean image(int k) {
        if (k < 0 || k >= IMAGES) {
            return false;
        }
        images[k].copyFrom(now);
        isTaken[k] = true;
        return true;
    }

    public boolean again(int k) {
        if (k < 0 || k >= IMAGES || !isTaken[k]) {
            return false;
        }
        now.copyFrom(images[k]);
        return true;
    }

    private static boolean isAsker(int asker) {
        return asker >= 0 && asker < ASKERS;
    }

    private static boolean isQuestion(int kind, int extra) {
        switch (kind) {
            case SUM:
                return extra >= 1 && extra <= MAX_VALUE;
            case COUNT:
                return extra >= 0 && extra <= MAX_VALUE;
            case GREATEST:
            case LEAST:
                return true;
            default:
                return false;
        }
    }

    private static boolean holdsBit(int bits, int place) {
        return ((bits >> place) & 1) != 0;
    }

    private static int lowestBit(int bits) {
        int place = 0;
        while (place < MAX_VALUE && !holdsBit(bits, place)) {
            place++;
        }
        return place;
    }

    private static int highestBit(int bits) {
        int place = MAX_VALUE;
        while (place > 0 && !holdsBit(bits, place)) {
            place--;
        }
        return place;
    }

    private int judge(int asker, int kind, int people, int extra) {
        sheet.markTables(now.numbers);
        sheet.answerTables(now.numbers, kind, people, extra);
        sheet.gatherCells(now.knowledge.leftOf(asker), now.numbers.tableCount);
        if (sheet.cellsUsed() == 1) {
            return IS_FOLLOWING;
        }
        return sheet.areCellsSafe(now.numbers) ? IS_GRANTED : IS_REFUSED;
    }

    private long seenBy(int asker) {
        sheet.markTables(now.numbers);
        return sheet.seenIn(now.knowledge.leftOf(asker), now.numbers.tableCount);
    }

    private void answerWishes(int asker) {
        Wishes wishes = now.wishes;
        sheet.markTables(now.numbers);
        sorter.begin(now.numbers, sheet.marks, now.knowledge.leftOf(asker));
        for (int w = 0; w < wishes.size; w++) {
            sheet.answerTables(now.numbers, wishes.kind[w], wishes.set[w], wishes.extra[w]);
            sorter.addAnswers(w, sheet.answers);
        }
    }

    /**
     * The best of the set 'best' and all granted sets that add wishes under 'below' to 'set', which has 'depth' wishes.
     * A set that is not granted is left at once: more answers only make its cells smaller.
     */
    private static int largestGranted(Sorter sorter, int depth, int set, int below, int best) {
        if (depth >= MAX_WISHES) {
            return best;
        }
        int found = best;
        for (int w = below - 1; w >= 0 && depth + 1 + w >= Integer.bitCount(found); w--) {
            int grown = set | (1 << w);
            if (sorter.isGranted(grown)) {
                found = largestGranted(sorter, depth + 1, grown, w, betterOf(found, grown));
            }
        }
        return found;
    }

    private static int betterOf(int a, int b) {
        int more = Integer.bitCount(b) - Integer.bitCount(a);
        if (more == 0) {
            return Math.min(a, b);
        }
        return more > 0 ? b : a;
    }

    /** All that is told, but for the images. */
    private static final class State {
        private final Numbers numbers = new Numbers();
        private final Knowledge knowledge = new Knowledge();
        private final Asks asks = new Asks();
        private final Wishes wishes = new Wishes();

        private void addNumber(int person, int value, int least, int greatest, int need) {
            knowledge.widen(numbers.tableCount, greatest - least + 1);
            numbers.add(person, value, least, greatest, need);
        }

        private void copyFrom(State other) {
            numbers.copyFrom(other.numbers);
            knowledge.copyFrom(other.knowledge);
            asks.copyFrom(other.asks);
            wishes.copyFrom(other.wishes);
        }
    }

    /**
     * The people and all numbers that there were. A table is the place of its row of values when all rows stand in
     * order, number 0 changing fastest, so that tables keep their places when a number comes.
     */
    private static final class Numbers {
        private final int[] current = new int[MAX_PEOPLE];
        private final int[] owner = new int[MAX_NUMBERS];
        private final int[] least = new int[MAX_NUMBERS];
        private final int[] greatest = new int[MAX_NUMBERS];
        private final int[] need = new int[MAX_NUMBERS];
        private final int[] value = new int[MAX_NUMBERS];
        private final int[] firstBit = new int[MAX_NUMBERS];
        private int people = 0;
        private int size = 0;
        private int tableCount = 1;
        private int total = 0;
        // Bit 0 of a table's mark is no value's, so that the mark of a table without numbers is not 0.
        private int bitsUsed = 1;

        private boolean hasRoomFor(int hidden, int from, int to) {
            return size < MAX_NUMBERS && hidden >= from && hidden <= to
                && tableCount * (to - from + 1) <= MAX_TABLES && total + to <= MAX_TOTAL;
        }

        private void add(int person, int hidden, int from, int to, int needed) {
            owner[size] = person;
            least[size] = from;
            greatest[size] = to;
            need[size] = needed;
            value[size] = hidden;
            firstBit[size] = bitsUsed;
            current[person] = size;
            bitsUsed += valueCount(size);
            tableCount *= valueCount(size);
            total += to;
            size++;
        }

        private int valueCount(int number) {
            return greatest[number] - least[number] + 1;
        }

        private boolean isCurrent(int number) {
            return current[owner[number]] == number;
        }

        private boolean isAskedOf(int number, int set) {
            return isCurrent(number) && holdsBit(set, owner[number]);
        }

        private int onlyPeople(int set) {
            return set & ((1 << people) - 1);
        }

        private int hiddenTable() {
            int table = 0;
            int step = 1;
            for (int n = 0; n < size; n++) {
                table += (value[n] - least[n]) * step;
                step *= valueCount(n);
            }
            return table;
        }

        /** Which values of a number the marks have, as bits, its least possible value first. */
        private int valuesIn(int number, long marks) {
            return (int) (marks >>> firstBit[number]) & ((1 << valueCount(number)) - 1);
        }

        /** Whether no number is close by fewer values than its need, in tables with these marks. */
        private boolean areSafe(long marks) {
            for (int n = 0; n < size; n++) {
                long values = valuesIn(n, marks);
                long lowest = values & -values;
                // Only a value that is so far above the lowest one makes the bits this great, taken as a number.
                if (values < lowest << (need[n] - 1)) {
                    return false;
                }
            }
            return true;
        }

        private void copyFrom(Numbers other) {
            System.arraycopy(other.current, 0, current, 0, MAX_PEOPLE);
            System.arraycopy(other.owner, 0, owner, 0, MAX_NUMBERS);
            System.arraycopy(other.least, 0, least, 0, MAX_NUMBERS);
            System.arraycopy(other.greatest, 0, greatest, 0, MAX_NUMBERS);
            System.arraycopy(other.need, 0, need, 0, MAX_NUMBERS);
            System.arraycopy(other.value, 0, value, 0, MAX_NUMBERS);
            System.arraycopy(other.firstBit, 0, firstBit, 0, MAX_NUMBERS);
            people = other.people;
            size = other.size;
            tableCount = other.tableCount;
            total = other.total;
            bitsUsed = other.bitsUsed;
        }
    }

    /** The tables that each asker has left, as bits; askers who joined share those of their leader. */
    private static final class Knowledge {
        private static final int WORDS = MAX_TABLES / WORD_BITS;

        private final int[] leader = new int[ASKERS];
        private final long[][] left = new long[ASKERS][WORDS];

        private Knowledge() {
            for (int a = 0; a < ASKERS; a++) {
                leader[a] = a;
                left[a][0] = 1L;
            }
        }

        private static boolean holds(long[] tables, int table) {
            return ((tables[table / WORD_BITS] >>> (table % WORD_BITS)) & 1L) != 0;
        }

        private long[] leftOf(int asker) {
            return left[leader[asker]];
        }

        private int tablesLeft(int asker) {
            long[] tables = leftOf(asker);
            int found = 0;
            for (int i = 0; i < WORDS; i++) {
                found += Long.bitCount(tables[i]);
            }
            return found;
        }

        private int circles() {
            int found = 0;
            for (int a = 0; a < ASKERS; a++) {
                if (leader[a] == a) {
                    found++;
                }
            }
            return found;
        }

        /** A number with so many values comes, and any of them goes with any table that was left. */
        private void widen(int tableCount, int valueCount) {
            for (int a = 0; a < ASKERS; a++) {
                if (leader[a] == a) {
                    repeat(left[a], tableCount, valueCount);
                }
            }
        }

        private static void repeat(long[] tables, int tableCount, int valueCount) {
            for (int t = 0; t < tableCount; t++) {
                if (holds(tables, t)) {
                    for (int v = 1; v < valueCount; v++) {
                        int table = v * tableCount + t;
                        tables[table / WORD_BITS] |= 1L << (table % WORD_BITS);
                    }
                }
            }
        }

        private void keepOnly(int asker, int tableCount, int[] answers, int answer) {
            long[] tables = leftOf(asker);
            for (int t = 0; t < tableCount; t++) {
                if (answers[t] != answer) {
                    tables[t / WORD_BITS] &= ~(1L << (t % WORD_BITS));
                }
            }
        }

        private boolean unite(int a, int b) {
            int kept = leader[a];
            int gone = leader[b];
            if (kept == gone) {
                return false;
            }
            for (int i = 0; i < WORDS; i++) {
                left[kept][i] &= left[gone][i];
            }
            for (int i = 0; i < ASKERS; i++) {
                if (leader[i] == gone) {
                    leader[i] = kept;
                }
            }
            return true;
        }

        private void copyFrom(Knowledge other) {
            System.arraycopy(other.leader, 0, leader, 0, ASKERS);
            for (int a = 0; a < ASKERS; a++) {
                System.arraycopy(other.left[a], 0, left[a], 0, WORDS);
            }
        }
    }

    /** The asks that were, granted or refused: row by row their asker, kind, set, extra and answer. */
    private static final class Asks {
        private final int[][] parts = new int[ASK_PARTS][MAX_ASKS];
        private int size = 0;
        private int refused = 0;

        private void add(int asker, int kind, int set, int extra, int answer) {
            parts[0][size] = asker;
            parts[1][size] = kind;
            parts[2][size] = set;
            parts[3][size] = extra;
            parts[4][size] = answer;
            size++;
            if (answer == REFUSED) {
                refused++;
            }
        }

        private void copyFrom(Asks other) {
            for (int i = 0; i < ASK_PARTS; i++) {
                System.arraycopy(other.parts[i], 0, parts[i], 0, MAX_ASKS);
            }
            size = other.size;
            refused = other.refused;
        }
    }

    /** The wishes that wait. */
    private static final class Wishes {
        private final int[] kind = new int[MAX_WISHES];
        private final int[] set = new int[MAX_WISHES];
        private final int[] extra = new int[MAX_WISHES];
        private int size = 0;

        private int add(int wishKind, int people, int wishExtra) {
            kind[size] = wishKind;
            set[size] = people;
            extra[size] = wishExtra;
            size++;
            return size - 1;
        }

        private void copyFrom(Wishes other) {
            System.arraycopy(other.kind, 0, kind, 0, MAX_WISHES);
            System.arraycopy(other.set, 0, set, 0, MAX_WISHES);
            System.arraycopy(other.extra, 0, extra, 0, MAX_WISHES);
            size = other.size;
        }
    }

    /**
     * Room to work out, for one call, each table's mark and its answer to a question. A mark has one bit for each
     * number, that of its value; or-ed over tables it tells all values that the numbers have there. One long holds it:
     * at most 4096 tables of at most 10 numbers with at most 21 values each have at most 21 + 21 + 9 + 7 values.
     */
    private static final class Sheet {
        private final long[] marks = new long[MAX_TABLES];
        private final int[] answers = new int[MAX_TABLES];
        private final long[] cells = new long[ANSWERS];

        private void markTables(Numbers numbers) {
            marks[0] = 1L;
            int done = 1;
            for (int n = 0; n < numbers.size; n++) {
                int values = numbers.valueCount(n);
                // Downwards, as the first tables are read for all others and so must change last.
                for (int v = values - 1; v >= 0; v--) {
                    long bit = 1L << (numbers.firstBit[n] + v);
                    for (int t = 0; t < done; t++) {
                        marks[v * done + t] = marks[t] | bit;
                    }
                }
                done *= values;
            }
        }

        private void answerTables(Numbers numbers, int kind, int set, int extra) {
            // Above all values, so that the least of some numbers is one of theirs.
            answers[0] = kind == LEAST && set != 0 ? MAX_VALUE + 1 : 0;
            int done = 1;
            for (int n = 0; n < numbers.size; n++) {
                int values = numbers.valueCount(n);
                boolean counts = numbers.isAskedOf(n, set);
                // Downwards, as in markTables.
                for (int v = values - 1; v >= 0; v--) {
                    int value = numbers.least[n] + v;
                    for (int t = 0; t < done; t++) {
                        int before = answers[t];
                        answers[v * done + t] = counts ? withValue(before, value, kind, extra) : before;
                    }
                }
                done *= values;
            }
            if (kind == SUM && extra > 1) {
                cutAnswers(done, extra);
            }
        }

        private static int withValue(int before, int value, int kind, int extra) {
            switch (kind) {
                case SUM:
                    return before + value;
                case COUNT:
                    return value >= extra ? before + 1 : before;
                case GREATEST:
                    return Math.max(before, value);
                default:
                    return Math.min(before, value);
            }
        }

        private void cutAnswers(int tableCount, int step) {
            if (step < 1) {
                return;
            }
            for (int t = 0; t < tableCount; t++) {
                answers[t] -= answers[t] % step;
            }
        }

        private long seenIn(long[] left, int tableCount) {
            long seen = 0L;
            for (int t = 0; t < tableCount; t++) {
                if (Knowledge.holds(left, t)) {
                    seen |= marks[t];
                }
            }
            return seen;
        }

        /** A cell is all tables left with one answer; here it is told by their marks, or-ed. */
        private void gatherCells(long[] left, int tableCount) {
            Arrays.fill(cells, 0L);
            for (int t = 0; t < tableCount; t++) {
                if (Knowledge.holds(left, t)) {
                    cells[answers[t]] |= marks[t];
                }
            }
        }

        private int cellsUsed() {
            int used = 0;
            for (int a = 0; a < ANSWERS; a++) {
                if (cells[a] != 0L) {
                    used++;
                }
            }
            return used;
        }

        private boolean areCellsSafe(Numbers numbers) {
            for (int a = 0; a < ANSWERS; a++) {
                if (cells[a] != 0L && !numbers.areSafe(cells[a])) {
                    return false;
                }
            }
            return true;
        }
    }

    /**
     * Room to sort, for one call, the tables left by their answers to some wishes, so that tables with the same row of
     * answers stand together. Each wish of a set sorts them stably, so any order, as that of the set before, will do
     * to begin with.
     */
    private static final class Sorter {
        private final long[] rows = new long[MAX_TABLES];
        private int[] order = new int[MAX_TABLES];
        private int[] spare = new int[MAX_TABLES];
        private final int[] starts = new int[ANSWERS + 1];
        private Numbers numbers = null;
        private long[] marks = null;
        private int size = 0;

        private void begin(Numbers asked, long[] tableMarks, long[] left) {
            numbers = asked;
            marks = tableMarks;
            size = 0;
            for (int t = 0; t < asked.tableCount; t++) {
                if (Knowledge.holds(left, t)) {
                    rows[t] = 0L;
                    order[size] = t;
                    size++;
                }
            }
        }

        private void addAnswers(int wish, int[] answers) {
            for (int i = 0; i < size; i++) {
                int t = order[i];
                rows[t] |= (long) answers[t] << (wish * ANSWER_BITS);
            }
        }

        private int answerTo(int wish, int table) {
            return (int) (rows[table] >>> (wish * ANSWER_BITS)) & (ANSWERS - 1);
        }

        /** Whether all cells of a set of wishes are safe to tell. */
        private boolean isGranted(int wishes) {
            for (int w = 0; w < MAX_WISHES; w++) {
                if (holdsBit(wishes, w)) {
                    sortBy(w);
                }
            }
            return areCellsSafe(answerBitsOf(wishes));
        }

        private void sortBy(int wish) {
            Arrays.fill(starts, 0);
            for (int i = 0; i < size; i++) {
                starts[answerTo(wish, order[i]) + 1]++;
            }
            for (int a = 1; a <= ANSWERS; a++) {
                starts[a] += starts[a - 1];
            }
            for (int i = 0; i < size; i++) {
                int answer = answerTo(wish, order[i]);
                spare[starts[answer]] = order[i];
                starts[answer]++;
            }
            int[] sorted = spare;
            spare = order;
            order = sorted;
        }

        /** Whether the tables that stand together with the same answers, in the wanted bits of their rows, are safe. */
        private boolean areCellsSafe(long wanted) {
            if (numbers == null || marks == null) {
                return false;
            }
            long seen = 0L;
            for (int i = 0; i < size; i++) {
                int t = order[i];
                seen |= marks[t];
                boolean ends = i + 1 == size || ((rows[t] ^ rows[order[i + 1]]) & wanted) != 0L;
                if (ends && !numbers.areSafe(seen)) {
                    return false;
                }
                if (ends) {
                    seen = 0L;
                }
            }
            return true;
        }

        private static long answerBitsOf(int wishes) {
            long bits = 0L;
            for (int w = 0; w < MAX_WISHES; w++) {
                if (holdsBit(wishes, w)) {
                    bits |= (long) (ANSWERS - 1) << (w * ANSWER_BITS);
                }
            }
            return bits;
        }
    }
}
