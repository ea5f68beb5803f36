import java.util.ArrayList;
import java.util.Arrays;
import java.util.Collections;
import java.util.Comparator;
import java.util.HashSet;
import java.util.List;
import java.util.Set;

/** The document once more, in another way: words are lists, and questions go to java.util.Arrays itself. */
public final class Model {
    private static final String KINDS = "bsil";
    private static final int[] BITS = {8, 16, 32, 64};

    private final List<List<Long>> rows = new ArrayList<>();
    private final int[][] spans = new int[12][3];
    private List<Integer> list = new ArrayList<>();

    public Model() {
        for (int row = 0; row < 16; row++) {
            rows.add(new ArrayList<>());
        }
    }

    private static void argument(boolean right) {
        if (!right) {
            throw new IllegalArgumentException();
        }
    }

    private static void index(boolean right) {
        if (!right) {
            throw new IndexOutOfBoundsException();
        }
    }

    private static void state(boolean right) {
        if (!right) {
            throw new IllegalStateException();
        }
    }

    private static boolean among(char sign, String signs) {
        return signs.indexOf(sign) >= 0;
    }

    private static boolean within(long number, long least, long most) {
        return least <= number && number <= most;
    }

    private static boolean holds(char kind, long number) {
        switch (kind) {
            case 'b':
                return number == (byte) number;
            case 's':
                return number == (short) number;
            case 'i':
                return number == (int) number;
            default:
                return true;
        }
    }

    private List<Long> row(char kind, int row) {
        index(within(row, 0, 3));
        return rows.get(KINDS.indexOf(kind) * 4 + row);
    }

    private static void refill(List<Long> row, List<Long> numbers) {
        List<Long> copy = new ArrayList<>(numbers);
        row.clear();
        row.addAll(copy);
    }

    private boolean isFitting(char kind, int span) {
        return spans[span][2] <= row(kind, spans[span][0]).size();
    }

    private List<Long> word(char kind, int span) {
        state(isFitting(kind, span));
        return row(kind, spans[span][0]).subList(spans[span][1], spans[span][2]);
    }

    private static byte[] bytes(List<Long> word) {
        byte[] numbers = new byte[word.size()];
        for (int place = 0; place < numbers.length; place++) {
            numbers[place] = word.get(place).byteValue();
        }
        return numbers;
    }

    private static short[] shorts(List<Long> word) {
        short[] numbers = new short[word.size()];
        for (int place = 0; place < numbers.length; place++) {
            numbers[place] = word.get(place).shortValue();
        }
        return numbers;
    }

    private static int[] ints(List<Long> word) {
        return word.stream().mapToInt(Long::intValue).toArray();
    }

    private static long[] longs(List<Long> word) {
        return word.stream().mapToLong(Long::longValue).toArray();
    }

    private static int answer(char kind, char what, List<Long> x, List<Long> y) {
        switch (what) {
            case 'e':
                boolean same = kind == 'b' ? Arrays.equals(bytes(x), bytes(y))
                        : kind == 's' ? Arrays.equals(shorts(x), shorts(y))
                        : kind == 'i' ? Arrays.equals(ints(x), ints(y)) : Arrays.equals(longs(x), longs(y));
                return same ? 1 : 0;
            case 'm':
                return kind == 'b' ? Arrays.mismatch(bytes(x), bytes(y))
                        : kind == 's' ? Arrays.mismatch(shorts(x), shorts(y))
                        : kind == 'i' ? Arrays.mismatch(ints(x), ints(y)) : Arrays.mismatch(longs(x), longs(y));
            case 'c':
                return Integer.signum(kind == 'b' ? Arrays.compare(bytes(x), bytes(y))
                        : kind == 's' ? Arrays.compare(shorts(x), shorts(y))
                        : kind == 'i' ? Arrays.compare(ints(x), ints(y)) : Arrays.compare(longs(x), longs(y)));
            default:
                return Integer.signum(kind == 'b' ? Arrays.compareUnsigned(bytes(x), bytes(y))
                        : kind == 's' ? Arrays.compareUnsigned(shorts(x), shorts(y))
                        : kind == 'i' ? Arrays.compareUnsigned(ints(x), ints(y))
                        : Arrays.compareUnsigned(longs(x), longs(y)));
        }
    }

    private static int compared(char kind, char order, List<Long> x, List<Long> y) {
        return answer(kind, order == 's' ? 'c' : 'u', x, y);
    }

    public int append(char kind, int row, long number) {
        argument(among(kind, KINDS) && holds(kind, number));
        List<Long> numbers = row(kind, row);
        state(numbers.size() < 32);
        numbers.add(number);
        return numbers.size();
    }

    public long set(char kind, int row, int place, long number) {
        argument(among(kind, KINDS) && holds(kind, number));
        List<Long> numbers = row(kind, row);
        index(within(place, 0, numbers.size() - 1));
        return numbers.set(place, number);
    }

    public long number(char kind, int row, int place) {
        argument(among(kind, KINDS));
        index(within(place, 0, row(kind, row).size() - 1));
        return row(kind, row).get(place);
    }

    public int length(char kind, int row) {
        argument(among(kind, KINDS));
        return row(kind, row).size();
    }

    public int clear(char kind, int row) {
        int before = length(kind, row);
        row(kind, row).clear();
        return before;
    }

    public int repeat(char kind, int row, int times) {
        argument(among(kind, KINDS) && within(times, 1, 8));
        List<Long> numbers = row(kind, row);
        state(numbers.size() * times <= 32);
        List<Long> all = new ArrayList<>();
        Collections.nCopies(times, numbers).forEach(all::addAll);
        refill(numbers, all);
        return numbers.size();
    }

    public int reverse(char kind, int row) {
        argument(among(kind, KINDS));
        Collections.reverse(row(kind, row));
        return row(kind, row).size();
    }

    public int cut(char kind, int row, int from, int to) {
        argument(among(kind, KINDS));
        List<Long> numbers = row(kind, row);
        index(from >= 0 && within(to, from, numbers.size()));
        refill(numbers, numbers.subList(from, to));
        return to - from;
    }

    public int convert(char kind, int row, char other, int otherRow, char how) {
        argument(among(kind, KINDS) && among(other, KINDS) && among(how, "nut"));
        List<Long> numbers = row(kind, row);
        List<Long> target = row(other, otherRow);
        int bits = BITS[KINDS.indexOf(kind)];
        List<Long> made = new ArrayList<>();
        for (long number : numbers) {
            state(how != 'u' || bits < 64 || number >= 0);
            long next = number;
            if (how == 'u' && bits < 64) {
                next = number & (1L << bits) - 1;
            } else if (how == 't') {
                next = (number ^ 1L << bits - 1) << 64 - bits >> 64 - bits;
            }
            state(holds(other, next));
            made.add(next);
        }
        refill(target, made);
        return made.size();
    }

    public int span(int number, int row, int from, int to) {
        index(within(number, 0, 11) && within(row, 0, 3));
        argument(from >= 0 && within(to, from, 32));
        spans[number] = new int[] {row, from, to};
        return to - from;
    }

    public int tells(int number, char what) {
        index(within(number, 0, 11));
        argument(among(what, "rft"));
        return spans[number]["rft".indexOf(what)];
    }

    public boolean fits(char kind, int number) {
        argument(among(kind, KINDS));
        index(within(number, 0, 11));
        return isFitting(kind, number);
    }

    public int asks(char kind, char what, int one, int other) {
        argument(among(kind, KINDS) && among(what, "ecum"));
        index(within(one, 0, 11) && within(other, 0, 11));
        return answer(kind, what, word(kind, one), word(kind, other));
    }

    public int asksRows(char kind, char what, int one, int other) {
        argument(among(kind, KINDS) && among(what, "ecum"));
        return answer(kind, what, row(kind, one), row(kind, other));
    }

    /** What Arrays throws cannot tell 3 from 1 and 2, so that is asked of the range itself. */
    public int refused(char kind, char what, int row, int from, int to) {
        argument(among(kind, KINDS) && among(what, "ecum"));
        long[] numbers = longs(row(kind, row));
        int thrown = 0;
        try {
            Arrays.mismatch(numbers, from, to, numbers, 0, numbers.length);
        } catch (ArrayIndexOutOfBoundsException e) {
            thrown = 2;
        } catch (IllegalArgumentException e) {
            thrown = 1;
        }
        return from > to && (from < 0 || to > numbers.length) ? 3 : thrown;
    }

    public int common(char kind, int one, int other) {
        argument(among(kind, KINDS));
        index(within(one, 0, 11) && within(other, 0, 11));
        return alike(word(kind, one), word(kind, other));
    }

    private static int alike(List<Long> x, List<Long> y) {
        int count = Math.min(x.size(), y.size());
        while (!x.subList(0, count).equals(y.subList(0, count))) {
            count--;
        }
        return count;
    }

    public int rank(char kind, char order, int number) {
        argument(among(kind, KINDS) && among(order, "su"));
        index(within(number, 0, 11));
        List<Long> word = word(kind, number);
        int lesser = 0;
        for (int span = 0; span < 12; span++) {
            lesser += isFitting(kind, span) && compared(kind, order, word(kind, span), word) < 0 ? 1 : 0;
        }
        return lesser;
    }

    public int sort(char kind, char order) {
        argument(among(kind, KINDS) && among(order, "su"));
        list = new ArrayList<>();
        for (int span = 0; span < 12; span++) {
            if (isFitting(kind, span)) {
                list.add(span);
            }
        }
        list.sort(Comparator.<Integer, List<Long>>comparing(span -> word(kind, span),
                (x, y) -> compared(kind, order, x, y)).thenComparing(Comparator.naturalOrder()));
        return list.size();
    }

    public int sorted(int place) {
        index(within(place, 0, list.size() - 1));
        return list.get(place);
    }

    public int ending(char kind, char order, int row, int place) {
        argument(among(kind, KINDS) && among(order, "su"));
        List<Long> numbers = row(kind, row);
        int n = numbers.size();
        index(within(place, 0, n - 1));
        List<Integer> begins = new ArrayList<>();
        for (int from = 0; from < n; from++) {
            begins.add(from);
        }
        begins.sort((x, y) -> compared(kind, order, numbers.subList(x, n), numbers.subList(y, n)));
        return begins.get(place);
    }

    public int distinct(char kind, int row) {
        argument(among(kind, KINDS));
        List<Long> numbers = row(kind, row);
        Set<List<Long>> words = new HashSet<>();
        for (int from = 0; from < numbers.size(); from++) {
            for (int to = from + 1; to <= numbers.size(); to++) {
                words.add(new ArrayList<>(numbers.subList(from, to)));
            }
        }
        return words.size();
    }

    public int longest(char kind, int row) {
        argument(among(kind, KINDS));
        List<Long> numbers = row(kind, row);
        for (int size = numbers.size() - 1; size > 0; size--) {
            Set<List<Long>> words = new HashSet<>();
            for (int from = 0; from + size <= numbers.size(); from++) {
                if (!words.add(new ArrayList<>(numbers.subList(from, from + size)))) {
                    return size;
                }
            }
        }
        return 0;
    }

    public int occurs(char kind, int row, int number) {
        argument(among(kind, KINDS));
        List<Long> numbers = row(kind, row);
        index(within(number, 0, 11));
        List<Long> word = word(kind, number);
        int count = 0;
        for (int from = 0; from <= numbers.size() - word.size(); from++) {
            count += numbers.subList(from, from + word.size()).equals(word) ? 1 : 0;
        }
        return count;
    }

    private static boolean hasPeriod(List<Long> numbers, int period) {
        int n = numbers.size();
        return numbers.subList(0, n - period).equals(numbers.subList(period, n));
    }

    public boolean isPeriod(char kind, int row, int period) {
        argument(among(kind, KINDS));
        List<Long> numbers = row(kind, row);
        index(within(period, 1, numbers.size()));
        return hasPeriod(numbers, period);
    }

    public int period(char kind, int row) {
        argument(among(kind, KINDS));
        List<Long> numbers = row(kind, row);
        int period = numbers.isEmpty() ? 0 : 1;
        while (!hasPeriod(numbers, period)) {
            period++;
        }
        return period;
    }

    public int root(char kind, int row) {
        argument(among(kind, KINDS));
        List<Long> numbers = row(kind, row);
        for (int size = 1; size <= numbers.size(); size++) {
            List<Long> all = new ArrayList<>();
            while (all.size() < numbers.size()) {
                all.addAll(numbers.subList(0, size));
            }
            if (all.equals(numbers)) {
                return size;
            }
        }
        return 0;
    }

    public int rotation(char kind, char order, int row) {
        argument(among(kind, KINDS) && among(order, "su"));
        List<Long> numbers = row(kind, row);
        int least = -1;
        List<Long> leastWord = null;
        for (int from = 0; from < numbers.size(); from++) {
            List<Long> word = new ArrayList<>(numbers);
            Collections.rotate(word, -from);
            if (leastWord == null || compared(kind, order, word, leastWord) < 0) {
                least = from;
                leastWord = word;
            }
        }
        return least;
    }

    /** The longest Lyndon word that begins a row is its first factor. */
    private List<Integer> begins(char kind, char order, int row) {
        argument(among(kind, KINDS) && among(order, "su"));
        List<Long> numbers = row(kind, row);
        List<Integer> begins = new ArrayList<>();
        int from = 0;
        while (from < numbers.size()) {
            begins.add(from);
            int to = numbers.size();
            while (!isLyndon(kind, order, numbers.subList(from, to))) {
                to--;
            }
            from = to;
        }
        return begins;
    }

    private static boolean isLyndon(char kind, char order, List<Long> word) {
        for (int from = 1; from < word.size(); from++) {
            if (compared(kind, order, word, word.subList(from, word.size())) >= 0) {
                return false;
            }
        }
        return !word.isEmpty();
    }

    public int factors(char kind, char order, int row) {
        return begins(kind, order, row).size();
    }

    public int factor(char kind, char order, int row, int place) {
        List<Integer> begins = begins(kind, order, row);
        index(within(place, 0, begins.size() - 1));
        return begins.get(place);
    }

    public float share(char kind) {
        argument(among(kind, KINDS));
        int pairs = 0;
        int same = 0;
        for (int one = 0; one < 12; one++) {
            for (int other = 0; other < 12; other++) {
                if (one != other && isFitting(kind, one) && isFitting(kind, other)) {
                    pairs++;
                    same += word(kind, one).equals(word(kind, other)) ? 1 : 0;
                }
            }
        }
        state(pairs > 0);
        return (float) (same / 2) / (float) (pairs / 2);
    }

    public double mean(char kind) {
        argument(among(kind, KINDS));
        int sum = 0;
        for (int row = 0; row < 4; row++) {
            sum += row(kind, row).size();
        }
        return (double) sum / 4.0;
    }

    public long checksum() {
        List<Long> values = new ArrayList<>();
        for (List<Long> row : rows) {
            values.add((long) row.size());
            values.addAll(row);
        }
        for (int[] span : spans) {
            Arrays.stream(span).forEach(value -> values.add((long) value));
        }
        values.add((long) list.size());
        list.forEach(span -> values.add((long) span));
        long sum = 7;
        for (long value : values) {
            sum = 31 * sum + value;
        }
        return sum;
    }

    public boolean isTrue(char kind, int one, int other, int third) {
        argument(among(kind, KINDS));
        index(within(one, 0, 11) && within(other, 0, 11) && within(third, 0, 11));
        state(isFitting(kind, one) && isFitting(kind, other) && isFitting(kind, third));
        return true;
    }

    public boolean rowIsTrue(char kind, char order, int row) {
        argument(among(kind, KINDS) && among(order, "su"));
        row(kind, row);
        return true;
    }
}
