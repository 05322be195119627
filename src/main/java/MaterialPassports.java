import java.util.Arrays;

/**
 * Passports of goods: parts with materials, goods in goods, changes by days, rights to see,
 * scores by a formula and marks by keys. All rows are made once, in constructors; no call makes
 * an object.
 */
public final class MaterialPassports {
    public static final int NONE = -1;

    private static final int MASKED = -2;
    private static final int MAX_GOODS = 8;
    private static final int MAX_PARTS = 24;
    private static final int MAX_CHANGES = 20;
    private static final int KINDS = 5;
    private static final int PERSONS = 8;
    private static final int LONGEST_LIFE = 200;
    private static final int MARK_BYTES = 8;
    private static final long MOST_GRAMS = 1000000000L;
    private static final long LAST_DAY = 100000L;
    private static final long MARK_FACTOR = 6364136223846793005L;

    private final int[] versions;
    private final boolean[] rights;
    private final Parts parts;
    private final Nesting nesting;
    private final Formula formula;
    private final long[] sums;
    private int goodCount;

    public MaterialPassports() {
        versions = new int[MAX_GOODS];
        rights = new boolean[PERSONS * MAX_GOODS];
        parts = new Parts();
        nesting = new Nesting();
        formula = new Formula();
        sums = new long[KINDS];
        goodCount = 0;
    }

    public int good() {
        if (goodCount >= MAX_GOODS) {
            return NONE;
        }
        goodCount++;
        return goodCount - 1;
    }

    public int part(int good, int kind, long grams, int life) {
        if (parts.isFull() || !isGood(good) || !isMaterial(kind, grams) || !isLife(life)) {
            return NONE;
        }
        versions[good]++;
        return parts.add(good, kind, grams, life);
    }

    public boolean into(int part, int inner) {
        if (!parts.has(part) || !isGood(inner) || parts.inners[part] != NONE) {
            return false;
        }
        int owner = parts.owners[part];
        if (nesting.holds(parts, inner, owner)) {
            return false;
        }
        parts.inners[part] = inner;
        versions[owner]++;
        return true;
    }

    public boolean life(int part, int years) {
        if (!parts.has(part) || !isLife(years)) {
            return false;
        }
        parts.lives[part] = years;
        versions[parts.owners[part]]++;
        return true;
    }

    public boolean change(int part, long day, int kind, long grams) {
        if (parts.changes.isFull() || !parts.has(part) || !isDay(day) || !isMaterial(kind, grams)) {
            return false;
        }
        parts.changes.add(part, day, kind, grams);
        versions[parts.owners[part]]++;
        return true;
    }

    public long total(int good, int kind) {
        return totalOn(good, kind, LAST_DAY);
    }

    public long totalOn(int good, int kind, long day) {
        if (!isGood(good) || !isKind(kind) || !isDay(day)) {
            return NONE;
        }
        nesting.sumWithin(parts, good, day, sums);
        return sums[kind];
    }

    public long frees(int kind, int years) {
        if (!isKind(kind) || !isLife(years)) {
            return NONE;
        }
        long sum = 0;
        for (int part = 0; part < parts.count; part++) {
            if (parts.lives[part] == years && parts.kindOn(part, LAST_DAY) == kind) {
                sum += parts.gramsOn(part, LAST_DAY);
            }
        }
        return sum;
    }

    public int version(int good) {
        return isGood(good) ? versions[good] : NONE;
    }

    public boolean right(int person, int good, boolean on) {
        if (!isPerson(person) || !isGood(good)) {
            return false;
        }
        rights[rightIndex(person, good)] = on;
        return true;
    }

    public long seen(int person, int good, int k, int what) {
        if (!isPerson(person) || !isGood(good)) {
            return NONE;
        }
        int part = parts.ownPart(good, k);
        if (part == NONE) {
            return NONE;
        }
        boolean open = rights[rightIndex(person, good)];
        int kind = parts.kindOn(part, LAST_DAY);
        switch (what) {
            case 0:
                return kind;
            case 1:
                return open ? parts.gramsOn(part, LAST_DAY) : parts.ownGrams(good, kind, LAST_DAY);
            case 2:
                return open ? parts.lives[part] : MASKED;
            default:
                return NONE;
        }
    }

    public boolean unit(int u) {
        return formula.addByte(u);
    }

    public int score() {
        return formula.readText();
    }

    public long scored(int good) {
        if (!formula.isTold() || !isGood(good)) {
            return Long.MIN_VALUE;
        }
        return valueFor(good);
    }

    public int swap(int part, int kind) {
        if (!formula.isTold() || parts.changes.isFull() || !parts.has(part) || !isKind(kind)) {
            return NONE;
        }
        int owner = parts.owners[part];
        long before = valueFor(owner);
        parts.changes.add(part, LAST_DAY, kind, parts.gramsOn(part, LAST_DAY));
        if (valueFor(owner) <= before) {
            parts.changes.dropLast();
            return 0;
        }
        versions[owner]++;
        return 1;
    }

    public int mark(int good, long key, int i) {
        if (!isGood(good) || i < 0 || i >= MARK_BYTES) {
            return NONE;
        }
        nesting.sumWithin(parts, good, LAST_DAY, sums);
        long x = key;
        for (int kind = 0; kind < KINDS; kind++) {
            x = (x + sums[kind] + 1) * MARK_FACTOR;
            x = x ^ (x >>> 32);
        }
        x = (x + versions[good]) * MARK_FACTOR;
        return (int) (x >>> (8 * (MARK_BYTES - 1 - i))) & 255;
    }

    public int most(int k) {
        nesting.sumOfAll(parts, LAST_DAY, sums);
        for (int kind = 0; kind < KINDS; kind++) {
            if (sums[kind] > 0 && kindsAhead(kind) == k) {
                return kind;
            }
        }
        return NONE;
    }

    private int kindsAhead(int kind) {
        int ahead = 0;
        for (int other = 0; other < KINDS; other++) {
            if (sums[other] > sums[kind] || (sums[other] == sums[kind] && other < kind)) {
                ahead++;
            }
        }
        return ahead;
    }

    private long valueFor(int good) {
        nesting.sumWithin(parts, good, LAST_DAY, sums);
        return formula.value(sums, parts.ownCount(good));
    }

    private boolean isGood(int good) {
        return good >= 0 && good < goodCount;
    }

    private static int rightIndex(int person, int good) {
        return person * MAX_GOODS + good;
    }

    private static boolean isPerson(int person) {
        return person >= 0 && person < PERSONS;
    }

    private static boolean isKind(int kind) {
        return kind >= 0 && kind < KINDS;
    }

    private static boolean isMaterial(int kind, long grams) {
        return isKind(kind) && grams >= 0 && grams <= MOST_GRAMS;
    }

    private static boolean isLife(int years) {
        return years >= 0 && years <= LONGEST_LIFE;
    }

    private static boolean isDay(long day) {
        return day >= 0 && day <= LAST_DAY;
    }

    /** The changes of all parts, in the order in which they were told. */
    private static final class Changes {
        final int[] changedParts = new int[MAX_CHANGES];
        final long[] days = new long[MAX_CHANGES];
        final int[] kinds = new int[MAX_CHANGES];
        final long[] grams = new long[MAX_CHANGES];
        int count = 0;

        boolean isFull() {
            return count >= MAX_CHANGES;
        }

        void add(int changedPart, long day, int kind, long gramsThen) {
            if (isFull()) {
                return;
            }
            changedParts[count] = changedPart;
            days[count] = day;
            kinds[count] = kind;
            grams[count] = gramsThen;
            count++;
        }

        void dropLast() {
            if (count > 0) {
                count--;
            }
        }

        /** The change that counts for a part on a day, or NONE. */
        int countingOn(int changedPart, long day) {
            int found = NONE;
            for (int at = 0; at < count; at++) {
                // >= because of the same day the one told last counts
                if (changedParts[at] == changedPart && days[at] <= day
                        && (found == NONE || days[at] >= days[found])) {
                    found = at;
                }
            }
            return found;
        }
    }

    /** The parts of all goods, by their numbers. */
    private static final class Parts {
        final int[] owners = new int[MAX_PARTS];
        final int[] kinds = new int[MAX_PARTS];
        final long[] grams = new long[MAX_PARTS];
        final int[] lives = new int[MAX_PARTS];
        final int[] inners = new int[MAX_PARTS];
        final Changes changes = new Changes();
        int count = 0;

        boolean isFull() {
            return count >= MAX_PARTS;
        }

        boolean has(int number) {
            return number >= 0 && number < count;
        }

        int add(int owner, int kind, long gramsFirst, int years) {
            if (isFull()) {
                return NONE;
            }
            owners[count] = owner;
            kinds[count] = kind;
            grams[count] = gramsFirst;
            lives[count] = years;
            inners[count] = NONE;
            count++;
            return count - 1;
        }

        int kindOn(int number, long day) {
            int at = changes.countingOn(number, day);
            return at == NONE ? kinds[number] : changes.kinds[at];
        }

        long gramsOn(int number, long day) {
            int at = changes.countingOn(number, day);
            return at == NONE ? grams[number] : changes.grams[at];
        }

        int ownCount(int owner) {
            int own = 0;
            for (int number = 0; number < count; number++) {
                if (owners[number] == owner) {
                    own++;
                }
            }
            return own;
        }

        /** The number of a good's k-th own part, or NONE. */
        int ownPart(int owner, int k) {
            int own = 0;
            for (int number = 0; number < count; number++) {
                if (owners[number] == owner) {
                    if (own == k) {
                        return number;
                    }
                    own++;
                }
            }
            return NONE;
        }

        /** The grams of a kind in a good's own parts, without what its inner goods have. */
        long ownGrams(int owner, int kind, long day) {
            long sum = 0;
            for (int number = 0; number < count; number++) {
                if (owners[number] == owner && kindOn(number, day) == kind) {
                    sum += gramsOn(number, day);
                }
            }
            return sum;
        }
    }

    /** Goods in goods: how often each good stands within one, and what that sums up to. */
    private static final class Nesting {
        final long[] times = new long[MAX_GOODS];
        final long[] layer = new long[MAX_GOODS];
        final long[] deeper = new long[MAX_GOODS];

        /** Whether a good is another one or has it within. */
        boolean holds(Parts parts, int outer, int sought) {
            countWithin(parts, outer);
            return times[sought] > 0;
        }

        /** The grams of each kind within a good on a day. */
        void sumWithin(Parts parts, int outer, long day, long[] sums) {
            countWithin(parts, outer);
            sumByTimes(parts, day, sums);
        }

        /** The grams of each kind of all parts on a day, each part once. */
        void sumOfAll(Parts parts, long day, long[] sums) {
            Arrays.fill(times, 1L);
            sumByTimes(parts, day, sums);
        }

        private void sumByTimes(Parts parts, long day, long[] sums) {
            Arrays.fill(sums, 0L);
            for (int number = 0; number < parts.count; number++) {
                long grams = parts.gramsOn(number, day);
                sums[parts.kindOn(number, day)] += times[parts.owners[number]] * grams;
            }
        }

        private void countWithin(Parts parts, int outer) {
            Arrays.fill(times, 0L);
            Arrays.fill(layer, 0L);
            times[outer] = 1;
            layer[outer] = 1;
            // no good is in itself, so no chain of goods is longer than there are goods
            for (int depth = 1; depth < MAX_GOODS; depth++) {
                goDeeper(parts);
            }
        }

        private void goDeeper(Parts parts) {
            Arrays.fill(deeper, 0L);
            for (int number = 0; number < parts.count; number++) {
                int inner = parts.inners[number];
                if (inner != NONE) {
                    deeper[inner] += layer[parts.owners[number]];
                }
            }
            for (int number = 0; number < MAX_GOODS; number++) {
                layer[number] = deeper[number];
                times[number] += deeper[number];
            }
        }
    }

    /**
     * The text and the formula that it tells. A word is kept as one int: a number as itself, all
     * others as the negative codes below.
     */
    private static final class Formula {
        static final int MAX_BYTES = 300;
        // words have a gap between them
        static final int MAX_WORDS = MAX_BYTES / 2;
        static final int MAX_DIGITS = 6;
        static final long BOUND = 1000000000000L;
        static final long WHOLE_SHARE = 1000L;

        // the share of kind k is SHARE - k
        static final int SHARE = -1;
        static final int OWN_PARTS = -6;
        static final int PLUS = -7;
        static final int MINUS = -8;
        static final int TIMES = -9;
        static final int LEAST = -10;
        static final int GREATEST = -11;
        static final int NO_WORD = -12;

        final int[] text = new int[MAX_BYTES];
        final int[] readWords = new int[MAX_WORDS];
        final int[] words = new int[MAX_WORDS];
        final long[] stack = new long[MAX_WORDS];
        int textLength = 0;
        int readCount = 0;
        int readDepth = 0;
        int wordCount = 0;

        boolean isTold() {
            return wordCount > 0;
        }

        boolean addByte(int value) {
            if (value < 0 || value > 255 || textLength >= MAX_BYTES) {
                return false;
            }
            text[textLength] = value;
            textLength++;
            return true;
        }

        /** Empties the text; keeps it as the formula when it is well. */
        int readText() {
            int length = textLength;
            textLength = 0;
            readCount = 0;
            readDepth = 0;
            int start = 0;
            for (int at = 0; at <= length; at++) {
                if (at == length || isGap(text[at])) {
                    if (start < at && !takeWord(wordAt(start, at))) {
                        return -1 - readCount;
                    }
                    start = at + 1;
                }
            }
            if (readDepth != 1) {
                return -1 - readCount;
            }
            System.arraycopy(readWords, 0, words, 0, readCount);
            wordCount = readCount;
            return wordCount;
        }

        /** Takes a read word; false when it is none or has too few before it. */
        private boolean takeWord(int word) {
            boolean joins = joinsTwo(word);
            if (word == NO_WORD || (joins && readDepth < 2) || readCount >= MAX_WORDS) {
                return false;
            }
            readWords[readCount] = word;
            readCount++;
            readDepth += joins ? -1 : 1;
            return true;
        }

        private int wordAt(int start, int end) {
            int first = text[start];
            if (isDigit(first)) {
                return numberAt(start, end);
            }
            switch (end - start) {
                case 1:
                    return signOf(first);
                case 2:
                    return first == 'k' ? shareOf(text[start + 1]) : NO_WORD;
                case 3:
                    return first == 'm' ? boundOf(text[start + 1], text[start + 2]) : NO_WORD;
                default:
                    return NO_WORD;
            }
        }

        private int numberAt(int start, int end) {
            if (end - start > MAX_DIGITS) {
                return NO_WORD;
            }
            int number = 0;
            for (int at = start; at < end; at++) {
                if (!isDigit(text[at])) {
                    return NO_WORD;
                }
                number = number * 10 + (text[at] - '0');
            }
            return number;
        }

        private static int signOf(int letter) {
            switch (letter) {
                case 'n':
                    return OWN_PARTS;
                case '+':
                    return PLUS;
                case '-':
                    return MINUS;
                case '*':
                    return TIMES;
                default:
                    return NO_WORD;
            }
        }

        private static int shareOf(int digit) {
            int kind = digit - '0';
            return isKind(kind) ? SHARE - kind : NO_WORD;
        }

        private static int boundOf(int second, int third) {
            if (second == 'i' && third == 'n') {
                return LEAST;
            }
            return second == 'a' && third == 'x' ? GREATEST : NO_WORD;
        }

        private static boolean isGap(int letter) {
            return letter == 32 || letter == 10;
        }

        private static boolean isDigit(int letter) {
            return letter >= '0' && letter <= '9';
        }

        private static boolean joinsTwo(int word) {
            return word <= PLUS && word >= GREATEST;
        }

        /** The value for a good with such grams of each kind and so many parts itself. */
        long value(long[] sums, int ownParts) {
            int depth = 0;
            for (int at = 0; at < wordCount; at++) {
                int word = words[at];
                if (!joinsTwo(word)) {
                    stack[depth] = valueOf(word, sums, ownParts);
                    depth++;
                } else if (depth >= 2) {
                    depth--;
                    stack[depth - 1] = join(word, stack[depth - 1], stack[depth]);
                }
            }
            return stack[0];
        }

        private static long valueOf(int word, long[] sums, int ownParts) {
            if (word >= 0) {
                return word;
            }
            if (word == OWN_PARTS) {
                return ownParts;
            }
            return share(SHARE - word, sums);
        }

        private static long share(int kind, long[] sums) {
            long whole = 0;
            for (int other = 0; other < KINDS; other++) {
                whole += sums[other];
            }
            return whole > 0 && isKind(kind) ? WHOLE_SHARE * sums[kind] / whole : 0;
        }

        private static long join(int sign, long a, long b) {
            switch (sign) {
                case PLUS:
                    return cut(a + b);
                case MINUS:
                    return cut(a - b);
                case TIMES:
                    return cutProduct(a, b);
                case LEAST:
                    return Math.min(a, b);
                default:
                    return Math.max(a, b);
            }
        }

        private static long cut(long sum) {
            return Math.max(-BOUND, Math.min(BOUND, sum));
        }

        private static long cutProduct(long a, long b) {
            if (a == 0) {
                return 0;
            }
            // two values at the bound would leave the longs, so look before multiplying
            if (Math.abs(b) <= BOUND / Math.abs(a)) {
                return a * b;
            }
            return (a < 0) == (b < 0) ? BOUND : -BOUND;
        }
    }
}
