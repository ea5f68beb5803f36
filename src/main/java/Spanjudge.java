/**
 * Rows of byte, short, int and long, spans of them, and what equals(), compare(), compareUnsigned()
 * and mismatch() of java.util.Arrays tell of their words; endings, periods and factors of a row.
 *
 * <p>The numbers of all kinds stand in arrays of long: the order of words, with signs or without, is
 * the same there, as a number of a lesser kind keeps its sign when it becomes a long.
 */
public final class Spanjudge {
    private static final int KINDS = 4;
    private static final int ROWS = 4;
    private static final int SPANS = 12;
    private static final int MOST_NUMBERS = 32;
    private static final int MOST_TIMES = 8;
    private static final int LONG_KIND = 3;
    private static final long TOP_BIT = -9223372036854775808L;

    /** The least number of each kind, b, s, i, l; the greatest one is its complement. */
    private static final long[] LEAST = {-128L, -32768L, -2147483648L, -9223372036854775808L};

    private final Row[] rows = new Row[KINDS * ROWS];
    private final Span[] spans = new Span[SPANS];
    private final int[] list = new int[SPANS];
    private final Endings endings = new Endings();
    private int listSize;

    /** Makes an object whose rows are without numbers and whose spans are those of row 0 from 0 to 0. */
    public Spanjudge() {
        for (int place = 0; place < rows.length; place++) {
            rows[place] = new Row();
        }
        for (int place = 0; place < spans.length; place++) {
            spans[place] = new Span();
        }
    }

    // ---- rows

    public int append(char kind, int row, long number)
            throws IllegalArgumentException, IndexOutOfBoundsException, IllegalStateException {
        int wanted = kindOf(kind);
        wantNumber(wanted, number);
        Row target = rowOf(wanted, row);
        if (target.size >= MOST_NUMBERS) {
            throw new IllegalStateException("the row is full");
        }
        target.numbers[target.size] = number;
        target.size++;
        return target.size;
    }

    public long set(char kind, int row, int place, long number)
            throws IllegalArgumentException, IndexOutOfBoundsException {
        int wanted = kindOf(kind);
        wantNumber(wanted, number);
        Row target = rowOf(wanted, row);
        wantPlace(place, target.size);
        long before = target.numbers[place];
        target.numbers[place] = number;
        return before;
    }

    public long number(char kind, int row, int place)
            throws IllegalArgumentException, IndexOutOfBoundsException {
        Row source = rowOf(kindOf(kind), row);
        wantPlace(place, source.size);
        return source.numbers[place];
    }

    public int length(char kind, int row) throws IllegalArgumentException, IndexOutOfBoundsException {
        return rowOf(kindOf(kind), row).size;
    }

    public int clear(char kind, int row) throws IllegalArgumentException, IndexOutOfBoundsException {
        Row target = rowOf(kindOf(kind), row);
        int before = target.size;
        target.size = 0;
        return before;
    }

    public int repeat(char kind, int row, int times)
            throws IllegalArgumentException, IndexOutOfBoundsException, IllegalStateException {
        int wanted = kindOf(kind);
        if (times < 1 || times > MOST_TIMES) {
            throw new IllegalArgumentException("times is out of range");
        }
        Row target = rowOf(wanted, row);
        int before = target.size;
        if (before * times > MOST_NUMBERS) {
            throw new IllegalStateException("the row would have too many numbers");
        }
        target.size = before * times;
        for (int place = before; place < target.size; place++) {
            target.numbers[place] = target.numbers[place - before];
        }
        return target.size;
    }

    public int reverse(char kind, int row) throws IllegalArgumentException, IndexOutOfBoundsException {
        Row target = rowOf(kindOf(kind), row);
        int right = target.size - 1;
        for (int left = 0; left < right; left++) {
            long kept = target.numbers[left];
            target.numbers[left] = target.numbers[right];
            target.numbers[right] = kept;
            right--;
        }
        return target.size;
    }

    public int cut(char kind, int row, int from, int to)
            throws IllegalArgumentException, IndexOutOfBoundsException {
        Row target = rowOf(kindOf(kind), row);
        if (from < 0 || to < from || to > target.size) {
            throw new IndexOutOfBoundsException("from or to is out of range");
        }
        target.size = to - from;
        for (int place = 0; place < target.size; place++) {
            target.numbers[place] = target.numbers[from + place];
        }
        return target.size;
    }

    public int convert(char kind, int row, char other, int otherRow, char how)
            throws IllegalArgumentException, IndexOutOfBoundsException, IllegalStateException {
        int wanted = kindOf(kind);
        int otherWanted = kindOf(other);
        if (how != 'n' && how != 'u' && how != 't') {
            throw new IllegalArgumentException("no such how");
        }
        Row source = rowOf(wanted, row);
        Row target = rowOf(otherWanted, otherRow);
        // All are looked at before one is put, as a call that throws changes nothing.
        for (int place = 0; place < source.size; place++) {
            if (!canChange(wanted, how, source.numbers[place], otherWanted)) {
                throw new IllegalStateException("no number of the other kind");
            }
        }
        target.size = source.size;
        for (int place = 0; place < source.size; place++) {
            target.numbers[place] = changed(wanted, how, source.numbers[place]);
        }
        return target.size;
    }

    // ---- spans

    public int span(int number, int row, int from, int to)
            throws IndexOutOfBoundsException, IllegalArgumentException {
        Span target = spanOf(number);
        wantRow(row);
        if (from < 0 || to < from || to > MOST_NUMBERS) {
            throw new IllegalArgumentException("from or to is out of range");
        }
        target.row = row;
        target.from = from;
        target.to = to;
        return to - from;
    }

    public int tells(int number, char what) throws IndexOutOfBoundsException, IllegalArgumentException {
        Span source = spanOf(number);
        switch (what) {
            case 'r':
                return source.row;
            case 'f':
                return source.from;
            case 't':
                return source.to;
            default:
                throw new IllegalArgumentException("a span tells nothing such");
        }
    }

    public boolean fits(char kind, int number) throws IllegalArgumentException, IndexOutOfBoundsException {
        int wanted = kindOf(kind);
        return isFitting(wanted, spanOf(number));
    }

    // ---- words

    public int asks(char kind, char what, int one, int other)
            throws IllegalArgumentException, IndexOutOfBoundsException, IllegalStateException {
        int wanted = kindOf(kind);
        wantQuestion(what);
        Span first = spanOf(one);
        Span second = spanOf(other);
        return answer(what, fittingWord(wanted, first), fittingWord(wanted, second));
    }

    public int asksRows(char kind, char what, int one, int other)
            throws IllegalArgumentException, IndexOutOfBoundsException {
        int wanted = kindOf(kind);
        wantQuestion(what);
        Row first = rowOf(wanted, one);
        Row second = rowOf(wanted, other);
        return answer(what, new Word(first.numbers, 0, first.size), new Word(second.numbers, 0, second.size));
    }

    public int refused(char kind, char what, int row, int from, int to)
            throws IllegalArgumentException, IndexOutOfBoundsException {
        int wanted = kindOf(kind);
        wantQuestion(what);
        Row source = rowOf(wanted, row);
        int turnedAbout = from > to ? 1 : 0;
        int outside = from < 0 || to > source.size ? 2 : 0;
        return turnedAbout + outside;
    }

    public int common(char kind, int one, int other)
            throws IllegalArgumentException, IndexOutOfBoundsException, IllegalStateException {
        int wanted = kindOf(kind);
        Span first = spanOf(one);
        Span second = spanOf(other);
        return alike(fittingWord(wanted, first), fittingWord(wanted, second));
    }

    public int rank(char kind, char order, int number)
            throws IllegalArgumentException, IndexOutOfBoundsException, IllegalStateException {
        int wanted = kindOf(kind);
        boolean unsigned = isUnsigned(order);
        Word word = fittingWord(wanted, spanOf(number));
        int lesser = 0;
        for (Span other : spans) {
            if (isFitting(wanted, other) && compareWords(wordOf(wanted, other), word, unsigned) < 0) {
                lesser++;
            }
        }
        return lesser;
    }

    public int sort(char kind, char order) throws IllegalArgumentException {
        int wanted = kindOf(kind);
        boolean unsigned = isUnsigned(order);
        listSize = 0;
        for (int number = 0; number < SPANS; number++) {
            if (isFitting(wanted, spans[number])) {
                putIntoList(wanted, unsigned, number);
            }
        }
        return listSize;
    }

    public int sorted(int place) throws IndexOutOfBoundsException {
        wantPlace(place, listSize);
        return list[place];
    }

    // ---- endings of a row

    public int ending(char kind, char order, int row, int place)
            throws IllegalArgumentException, IndexOutOfBoundsException {
        int wanted = kindOf(kind);
        boolean unsigned = isUnsigned(order);
        Row source = rowOf(wanted, row);
        wantPlace(place, source.size);
        endings.take(source, unsigned);
        endings.putInOrder();
        return endings.inOrder[place];
    }

    public int distinct(char kind, int row) throws IllegalArgumentException, IndexOutOfBoundsException {
        endings.take(rowOf(kindOf(kind), row), false);
        return endings.countWords();
    }

    public int longest(char kind, int row) throws IllegalArgumentException, IndexOutOfBoundsException {
        endings.take(rowOf(kindOf(kind), row), false);
        return endings.longestTwice();
    }

    public int occurs(char kind, int row, int number)
            throws IllegalArgumentException, IndexOutOfBoundsException, IllegalStateException {
        int wanted = kindOf(kind);
        Row source = rowOf(wanted, row);
        Word word = fittingWord(wanted, spanOf(number));
        int count = 0;
        for (int from = 0; from + word.size() <= source.size; from++) {
            if (alike(new Word(source.numbers, from, source.size), word) == word.size()) {
                count++;
            }
        }
        return count;
    }

    // ---- periods and factors

    public boolean isPeriod(char kind, int row, int period)
            throws IllegalArgumentException, IndexOutOfBoundsException {
        Row source = rowOf(kindOf(kind), row);
        if (period < 1 || period > source.size) {
            throw new IndexOutOfBoundsException("the period is out of range");
        }
        return source.hasPeriod(period);
    }

    public int period(char kind, int row) throws IllegalArgumentException, IndexOutOfBoundsException {
        Row source = rowOf(kindOf(kind), row);
        for (int candidate = 1; candidate < source.size; candidate++) {
            if (source.hasPeriod(candidate)) {
                return candidate;
            }
        }
        return source.size;
    }

    public int root(char kind, int row) throws IllegalArgumentException, IndexOutOfBoundsException {
        Row source = rowOf(kindOf(kind), row);
        for (int candidate = 1; candidate < source.size; candidate++) {
            if (source.size % candidate == 0 && source.hasPeriod(candidate)) {
                return candidate;
            }
        }
        return source.size;
    }

    public int rotation(char kind, char order, int row)
            throws IllegalArgumentException, IndexOutOfBoundsException {
        int wanted = kindOf(kind);
        boolean unsigned = isUnsigned(order);
        Row source = rowOf(wanted, row);
        if (source.size == 0) {
            return -1;
        }
        int least = 0;
        for (int candidate = 1; candidate < source.size; candidate++) {
            if (source.compareRotations(candidate, least, unsigned) < 0) {
                least = candidate;
            }
        }
        return least;
    }

    public int factors(char kind, char order, int row)
            throws IllegalArgumentException, IndexOutOfBoundsException {
        int wanted = kindOf(kind);
        boolean unsigned = isUnsigned(order);
        endings.take(rowOf(wanted, row), unsigned);
        endings.split();
        return endings.factorCount;
    }

    public int factor(char kind, char order, int row, int place)
            throws IllegalArgumentException, IndexOutOfBoundsException {
        int wanted = kindOf(kind);
        boolean unsigned = isUnsigned(order);
        endings.take(rowOf(wanted, row), unsigned);
        endings.split();
        wantPlace(place, endings.factorCount);
        return endings.factorBegins[place];
    }

    // ---- figures

    public float share(char kind) throws IllegalArgumentException, IllegalStateException {
        int wanted = kindOf(kind);
        int pairs = 0;
        int samePairs = 0;
        for (int one = 0; one < SPANS; one++) {
            if (isFitting(wanted, spans[one])) {
                pairs += fittingAhead(wanted, one);
                samePairs += sameAhead(wanted, one);
            }
        }
        if (pairs == 0) {
            throw new IllegalStateException("fewer than two spans fit");
        }
        return (float) samePairs / (float) pairs;
    }

    public double mean(char kind) throws IllegalArgumentException {
        int wanted = kindOf(kind);
        int sum = 0;
        for (int row = 0; row < ROWS; row++) {
            sum += rows[wanted * ROWS + row].size;
        }
        return (double) sum / (double) ROWS;
    }

    public long checksum() {
        long sum = 7;
        for (Row row : rows) {
            sum = 31 * sum + row.size;
            for (int place = 0; place < row.size; place++) {
                sum = 31 * sum + row.numbers[place];
            }
        }
        for (Span span : spans) {
            sum = 31 * sum + span.row;
            sum = 31 * sum + span.from;
            sum = 31 * sum + span.to;
        }
        sum = 31 * sum + listSize;
        for (int place = 0; place < listSize; place++) {
            sum = 31 * sum + list[place];
        }
        return sum;
    }

    public boolean isTrue(char kind, int one, int other, int third)
            throws IllegalArgumentException, IndexOutOfBoundsException, IllegalStateException {
        int wanted = kindOf(kind);
        Span first = spanOf(one);
        Span second = spanOf(other);
        Span last = spanOf(third);
        Word[] words = {fittingWord(wanted, first), fittingWord(wanted, second), fittingWord(wanted, last)};
        return WordTheorem.holds(wanted, words);
    }

    public boolean rowIsTrue(char kind, char order, int row)
            throws IllegalArgumentException, IndexOutOfBoundsException {
        int wanted = kindOf(kind);
        boolean unsigned = isUnsigned(order);
        Row source = rowOf(wanted, row);
        endings.take(source, unsigned);
        endings.putInOrder();
        endings.split();
        return RowTheorem.countIsTrue(endings)
                && RowTheorem.periodsAreTrue(source, endings)
                && RowTheorem.factorsAreTrue(endings);
    }

    // ---- what the calls want of their arguments

    private static int kindOf(char kind) {
        switch (kind) {
            case 'b':
                return 0;
            case 's':
                return 1;
            case 'i':
                return 2;
            case 'l':
                return LONG_KIND;
            default:
                throw new IllegalArgumentException("no such kind");
        }
    }

    private static boolean isUnsigned(char order) {
        if (order != 's' && order != 'u') {
            throw new IllegalArgumentException("no such order");
        }
        return order == 'u';
    }

    private static void wantQuestion(char what) {
        if (what != 'e' && what != 'c' && what != 'u' && what != 'm') {
            throw new IllegalArgumentException("Arrays is asked nothing such");
        }
    }

    private static void wantNumber(int kind, long number) {
        if (!isNumberOf(kind, number)) {
            throw new IllegalArgumentException("no number of this kind");
        }
    }

    private static void wantRow(int row) {
        if (row < 0 || row >= ROWS) {
            throw new IndexOutOfBoundsException("no such row");
        }
    }

    private static void wantPlace(int place, int size) {
        if (place < 0 || place >= size) {
            throw new IndexOutOfBoundsException("no such place");
        }
    }

    private Row rowOf(int kind, int row) {
        wantRow(row);
        return rows[kind * ROWS + row];
    }

    private Span spanOf(int number) {
        if (number < 0 || number >= SPANS) {
            throw new IndexOutOfBoundsException("no such span");
        }
        return spans[number];
    }

    private Word fittingWord(int kind, Span span) {
        if (!isFitting(kind, span)) {
            throw new IllegalStateException("the span does not fit");
        }
        return wordOf(kind, span);
    }

    private boolean isFitting(int kind, Span span) {
        return span.to <= rows[kind * ROWS + span.row].size;
    }

    /** Only of a span that fits. */
    private Word wordOf(int kind, Span span) {
        return new Word(rows[kind * ROWS + span.row].numbers, span.from, span.to);
    }

    // ---- what the calls share

    /** Behind those of the same word, which came with lesser numbers. */
    private void putIntoList(int kind, boolean unsigned, int number) {
        Word word = wordOf(kind, spans[number]);
        int place = listSize;
        while (place > 0 && compareWords(wordOf(kind, spans[list[place - 1]]), word, unsigned) > 0) {
            list[place] = list[place - 1];
            place--;
        }
        list[place] = number;
        listSize++;
    }

    private int fittingAhead(int kind, int number) {
        int count = 0;
        for (int other = 0; other < number; other++) {
            if (isFitting(kind, spans[other])) {
                count++;
            }
        }
        return count;
    }

    private int sameAhead(int kind, int number) {
        Word word = wordOf(kind, spans[number]);
        int count = 0;
        for (int other = 0; other < number; other++) {
            if (isFitting(kind, spans[other]) && isSame(wordOf(kind, spans[other]), word)) {
                count++;
            }
        }
        return count;
    }

    // ---- numbers

    private static boolean isNumberOf(int kind, long number) {
        return number >= LEAST[kind] && number <= ~LEAST[kind];
    }

    private static int compareNumbers(long one, long other, boolean unsigned) {
        long left = unsigned ? one ^ TOP_BIT : one;
        long right = unsigned ? other ^ TOP_BIT : other;
        if (left == right) {
            return 0;
        }
        return left < right ? -1 : 1;
    }

    private static boolean canChange(int kind, char how, long number, int otherKind) {
        // A long below 0 without its sign is above all numbers that there are.
        if (how == 'u' && kind == LONG_KIND && number < 0) {
            return false;
        }
        return isNumberOf(otherKind, changed(kind, how, number));
    }

    private static long changed(int kind, char how, long number) {
        if (how == 'u') {
            return number < 0 ? number - 2 * LEAST[kind] : number;
        }
        if (how == 't') {
            return number < 0 ? number - LEAST[kind] : number + LEAST[kind];
        }
        return number;
    }

    // ---- two words

    private static int alike(Word one, Word other) {
        int shorter = Math.min(one.size(), other.size());
        int count = 0;
        while (count < shorter && one.at(count) == other.at(count)) {
            count++;
        }
        return count;
    }

    private static boolean isSame(Word one, Word other) {
        return one.size() == other.size() && alike(one, other) == one.size();
    }

    private static int mismatch(Word one, Word other) {
        int place = alike(one, other);
        return place == one.size() && place == other.size() ? -1 : place;
    }

    private static int compareWords(Word one, Word other, boolean unsigned) {
        int place = alike(one, other);
        if (place < one.size() && place < other.size()) {
            return compareNumbers(one.at(place), other.at(place), unsigned);
        }
        return compareNumbers(one.size(), other.size(), false);
    }

    private static int answer(char what, Word one, Word other) {
        switch (what) {
            case 'e':
                return isSame(one, other) ? 1 : 0;
            case 'c':
                return compareWords(one, other, false);
            case 'u':
                return compareWords(one, other, true);
            default:
                return mismatch(one, other);
        }
    }

    /** A row: the first size numbers of the array. */
    private static final class Row {
        private final long[] numbers = new long[MOST_NUMBERS];
        private int size;

        private boolean hasPeriod(int distance) {
            for (int place = distance; place < size; place++) {
                if (numbers[place] != numbers[place - distance]) {
                    return false;
                }
            }
            return true;
        }

        private int compareRotations(int one, int other, boolean unsigned) {
            for (int step = 0; step < size; step++) {
                int compared = compareNumbers(atRound(one + step), atRound(other + step), unsigned);
                if (compared != 0) {
                    return compared;
                }
            }
            return 0;
        }

        /** The place is below twice the size. */
        private long atRound(int place) {
            return numbers[place < size ? place : place - size];
        }
    }

    /** A span: it may tell of places that no row has. */
    private static final class Span {
        private int row;
        private int from;
        private int to;
    }

    /** A word: the numbers of an array at the places from to to less 1, which stay where they are. */
    private static final class Word {
        private final long[] numbers;
        private final int from;
        private final int to;

        private Word(long[] numbers, int from, int to) {
            this.numbers = numbers;
            this.from = from;
            this.to = to;
        }

        private int size() {
            return to - from;
        }

        private long at(int place) {
            return numbers[from + place];
        }

        private Word changedBy(int kind, char how) {
            long[] others = new long[size()];
            for (int place = 0; place < others.length; place++) {
                others[place] = changed(kind, how, at(place));
            }
            return new Word(others, 0, others.length);
        }
    }

    /**
     * The endings of one row, by one order. An object keeps one for all its calls, and each call
     * takes its row anew: tables made by each call would be too many for a long run.
     */
    private static final class Endings {
        private final int[][] alikeAt = new int[MOST_NUMBERS + 1][MOST_NUMBERS + 1];
        private final int[][] ways = new int[MOST_NUMBERS + 1][MOST_NUMBERS + 1];
        private final int[] inOrder = new int[MOST_NUMBERS];
        private final int[] factorBegins = new int[MOST_NUMBERS];
        private int factorCount;
        private long[] numbers = new long[MOST_NUMBERS];
        private int size;
        private boolean unsigned;

        private void take(Row row, boolean byUnsigned) {
            numbers = row.numbers;
            size = row.size;
            unsigned = byUnsigned;
            // The table may still hold what a longer row had here.
            for (int place = 0; place <= size; place++) {
                alikeAt[place][size] = 0;
                alikeAt[size][place] = 0;
            }
            for (int one = size - 1; one >= 0; one--) {
                for (int other = size - 1; other >= 0; other--) {
                    boolean same = numbers[one] == numbers[other];
                    alikeAt[one][other] = same ? alikeAt[one + 1][other + 1] + 1 : 0;
                }
            }
        }

        private int compareParts(int from, int to, int otherFrom, int otherTo) {
            int partSize = to - from;
            int otherSize = otherTo - otherFrom;
            int place = alikeAt[from][otherFrom];
            if (place < partSize && place < otherSize) {
                return compareNumbers(numbers[from + place], numbers[otherFrom + place], unsigned);
            }
            return compareNumbers(partSize, otherSize, false);
        }

        private void putInOrder() {
            for (int from = 0; from < size; from++) {
                int place = from;
                while (place > 0 && compareParts(inOrder[place - 1], size, from, size) > 0) {
                    inOrder[place] = inOrder[place - 1];
                    place--;
                }
                inOrder[place] = from;
            }
        }

        /** The words that begin at a place and at none ahead of it are those longer than what begins there too. */
        private int countWords() {
            int count = 0;
            for (int from = 0; from < size; from++) {
                count += size - from - mostAlikeAhead(from);
            }
            return count;
        }

        private int longestTwice() {
            int most = 0;
            for (int from = 0; from < size; from++) {
                most = Math.max(most, mostAlikeAhead(from));
            }
            return most;
        }

        private int mostAlikeAhead(int from) {
            int most = 0;
            for (int ahead = 0; ahead < from; ahead++) {
                most = Math.max(most, alikeAt[ahead][from]);
            }
            return most;
        }

        /** A factor begins just where an ending is less than each longer one. */
        private void split() {
            factorCount = 0;
            int least = 0;
            for (int from = 0; from < size; from++) {
                if (from == 0 || compareParts(from, size, least, size) < 0) {
                    least = from;
                    factorBegins[factorCount] = from;
                    factorCount++;
                }
            }
        }

        private int factorEnd(int place) {
            return place + 1 < factorCount ? factorBegins[place + 1] : size;
        }

        private boolean isLyndon(int from, int to) {
            for (int later = from + 1; later < to; later++) {
                if (compareParts(from, to, later, to) >= 0) {
                    return false;
                }
            }
            return from < to;
        }

        /** How many sequences of Lyndon words, none less than the next one, the row is. */
        private int countWays() {
            if (size == 0) {
                return 1;
            }
            for (int from = size - 1; from >= 0; from--) {
                for (int to = from + 1; to <= size; to++) {
                    ways[from][to] = isLyndon(from, to) ? waysBehind(from, to) : 0;
                }
            }
            int count = 0;
            for (int to = 1; to <= size; to++) {
                count += ways[0][to];
            }
            return count;
        }

        private int waysBehind(int from, int to) {
            if (to == size) {
                return 1;
            }
            int count = 0;
            for (int next = to + 1; next <= size; next++) {
                if (ways[to][next] != 0 && compareParts(from, to, to, next) >= 0) {
                    count += ways[to][next];
                }
            }
            return count;
        }
    }

    /** (1), (2) and (3) of the document's THEOREM, of three words. */
    private static final class WordTheorem {
        private static boolean holds(int kind, Word[] words) {
            Word[] turned = changedWords(kind, 't', words);
            // A long below 0 without its sign is no long, so of longs only the turned ones are looked at.
            Word[] unsigned = kind == LONG_KIND ? turned : changedWords(kind, 'u', words);
            for (int one = 0; one < words.length; one++) {
                for (int other = 0; other < words.length; other++) {
                    boolean pairIsTrue = one == other
                            || alikeIsTrue(words[one], words[other])
                            && orderIsTrue(words[one], words[other], false)
                            && orderIsTrue(words[one], words[other], true)
                            && isUnsignedOf(words[one], words[other], turned[one], turned[other])
                            && isUnsignedOf(words[one], words[other], unsigned[one], unsigned[other]);
                    if (!pairIsTrue) {
                        return false;
                    }
                }
            }
            return threeAreTrue(words, false) && threeAreTrue(words, true);
        }

        private static Word[] changedWords(int kind, char how, Word[] words) {
            Word[] others = new Word[words.length];
            for (int place = 0; place < words.length; place++) {
                others[place] = words[place].changedBy(kind, how);
            }
            return others;
        }

        /** (1) */
        private static boolean alikeIsTrue(Word x, Word y) {
            int told = mismatch(x, y);
            boolean same = told == -1;
            int count = same ? x.size() : told;
            if (count < 0 || count > x.size() || count > y.size()) {
                return false;
            }
            for (int place = 0; place < count; place++) {
                if (x.at(place) != y.at(place)) {
                    return false;
                }
            }
            boolean bothGoOn = count < x.size() && count < y.size();
            boolean bothEnd = count == x.size() && count == y.size();
            return (!bothGoOn || x.at(count) != y.at(count))
                    && same == bothEnd
                    && same == isSame(x, y)
                    && same == (compareWords(x, y, false) == 0)
                    && same == (compareWords(x, y, true) == 0);
        }

        /** (2), of an order by itself */
        private static boolean orderIsTrue(Word x, Word y, boolean unsigned) {
            int compared = compareWords(x, y, unsigned);
            int place = alike(x, y);
            boolean unlikeInBoth = place < x.size() && place < y.size();
            int due = unlikeInBoth
                    ? compareNumbers(x.at(place), y.at(place), unsigned)
                    : compareNumbers(x.size(), y.size(), false);
            return compared == due && compareWords(y, x, unsigned) == -compared;
        }

        /** (2), of compareUnsigned() by compare() of the words with other numbers */
        private static boolean isUnsignedOf(Word x, Word y, Word otherX, Word otherY) {
            return compareWords(x, y, true) == compareWords(otherX, otherY, false);
        }

        /** (2) and (3), of all three in each sequence */
        private static boolean threeAreTrue(Word[] words, boolean unsigned) {
            for (int first = 0; first < words.length; first++) {
                for (int second = 0; second < words.length; second++) {
                    for (int third = 0; third < words.length; third++) {
                        boolean allDiffer = first != second && second != third && first != third;
                        if (allDiffer && !chainIsTrue(words[first], words[second], words[third], unsigned)) {
                            return false;
                        }
                    }
                }
            }
            return true;
        }

        private static boolean chainIsTrue(Word x, Word y, Word z, boolean unsigned) {
            int first = compareWords(x, y, unsigned);
            int second = compareWords(y, z, unsigned);
            if (first > 0 || second > 0) {
                return true;
            }
            boolean lessOfLess = first == 0 || second == 0 || compareWords(x, z, unsigned) < 0;
            return lessOfLess && alike(x, z) == Math.min(alike(x, y), alike(y, z));
        }
    }

    /** (4), (5) and (6) of the document's THEOREM, of a row whose endings are in order and whose factors are split. */
    private static final class RowTheorem {
        /** (4) */
        private static boolean countIsTrue(Endings endings) {
            int count = endings.size * (endings.size + 1) / 2;
            for (int place = 1; place < endings.size; place++) {
                count -= endings.alikeAt[endings.inOrder[place - 1]][endings.inOrder[place]];
            }
            return count == endings.countWords();
        }

        /** (5) */
        private static boolean periodsAreTrue(Row row, Endings endings) {
            int size = row.size;
            for (int p = 1; p <= size; p++) {
                boolean sameWord = endings.compareParts(0, size - p, p, size) == 0;
                if (row.hasPeriod(p) != sameWord) {
                    return false;
                }
                for (int q = 1; q < p && sameWord; q++) {
                    if (row.hasPeriod(q) && !divisorIsTrue(row, p, q)) {
                        return false;
                    }
                }
            }
            return true;
        }

        private static boolean divisorIsTrue(Row row, int p, int q) {
            int divisor = greatestDivisor(p, q);
            return p + q - divisor > row.size || row.hasPeriod(divisor);
        }

        private static int greatestDivisor(int p, int q) {
            for (int candidate = Math.min(p, q); candidate > 1; candidate--) {
                if (p % candidate == 0 && q % candidate == 0) {
                    return candidate;
                }
            }
            return 1;
        }

        /** (6) */
        private static boolean factorsAreTrue(Endings endings) {
            int last = endings.factorCount - 1;
            for (int place = 0; place <= last; place++) {
                int from = endings.factorBegins[place];
                int to = endings.factorEnd(place);
                if (!endings.isLyndon(from, to)) {
                    return false;
                }
                if (place < last && endings.compareParts(from, to, to, endings.factorEnd(place + 1)) < 0) {
                    return false;
                }
            }
            boolean lastIsLeast = last < 0 || endings.factorBegins[last] == endings.inOrder[0];
            return lastIsLeast && endings.countWays() == 1;
        }
    }
}
