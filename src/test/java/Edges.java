import java.util.ArrayList;
import java.util.Arrays;
import java.util.Collections;
import java.util.List;
import java.util.TreeSet;
import java.util.function.Function;

/** What stands just inside and just outside of the document's ranges, and objects to try it on. */
final class Edges {
    static final char[] KINDS = {'b', 's', 'i', 'l'};
    static final char[] ORDERS = {'s', 'u'};
    static final char[] QUESTIONS = {'e', 'c', 'u', 'm'};
    private static final int[] BITS = {8, 16, 32, 64};

    interface RowBody {
        void look(char kind, int row);
    }

    private Edges() {
    }

    static int bits(char kind) {
        return BITS["bsil".indexOf(kind)];
    }

    static long least(char kind) {
        return -1L << bits(kind) - 1;
    }

    static long most(char kind) {
        return ~least(kind);
    }

    static void eachRow(RowBody body) {
        for (char kind : KINDS) {
            for (int row = 0; row < 4; row++) {
                body.look(kind, row);
            }
        }
    }

    static <T> List<Cases.Call> each(List<T> arguments, Function<T, Cases.Call> call) {
        List<Cases.Call> calls = new ArrayList<>();
        arguments.forEach(argument -> calls.add(call.apply(argument)));
        return calls;
    }

    /** The first 512 characters and the last one, and all that are one of the right ones once they are cut to a byte. */
    static List<Character> charsBut(String right) {
        List<Character> wrong = new ArrayList<>();
        for (int sign = 0; sign < 65536; sign++) {
            boolean near = sign < 512 || sign == 65535 || right.indexOf((char) (sign & 255)) >= 0;
            if (near && right.indexOf((char) sign) < 0) {
                wrong.add((char) sign);
            }
        }
        return wrong;
    }

    /** The powers of two and their neighbours, below 0 too. */
    private static TreeSet<Long> aroundPowers() {
        TreeSet<Long> numbers = new TreeSet<>();
        for (int power = 0; power < 64; power++) {
            for (long step = -1; step <= 1; step++) {
                numbers.add((1L << power) + step);
                numbers.add(-(1L << power) + step);
            }
        }
        return numbers;
    }

    static List<Integer> intsOutside(int least, int most) {
        TreeSet<Integer> numbers = new TreeSet<>(List.of(least - 1, least - 2, most + 1, most + 2));
        for (int number = -40; number <= 70; number++) {
            numbers.add(number);
        }
        for (long number : aroundPowers()) {
            numbers.add((int) number);
        }
        numbers.removeIf(number -> number >= least && number <= most);
        return new ArrayList<>(numbers);
    }

    /** The least and the greatest number of a kind, and many between them that are the edges of something. */
    static List<Long> numbersOf(char kind) {
        TreeSet<Long> numbers = new TreeSet<>();
        for (long edge : aroundPowers()) {
            numbers.addAll(List.of(edge, least(kind) + edge, most(kind) - edge));
        }
        numbers.removeIf(number -> number < least(kind) || number > most(kind));
        return new ArrayList<>(numbers);
    }

    /** None for l. */
    static List<Long> numbersBeyond(char kind) {
        TreeSet<Long> numbers = aroundPowers();
        numbers.removeIf(number -> number >= least(kind) && number <= most(kind));
        return new ArrayList<>(numbers);
    }

    static List<Long> longs(long... numbers) {
        List<Long> list = new ArrayList<>();
        for (long number : numbers) {
            list.add(number);
        }
        return list;
    }

    static List<Long> turnedAbout(List<Long> numbers) {
        List<Long> list = new ArrayList<>(numbers);
        Collections.reverse(list);
        return list;
    }

    /** So many numbers, each greater than the one ahead: 1, 2 and so on. */
    static long[] rising(int size) {
        long[] numbers = new long[size];
        for (int place = 0; place < size; place++) {
            numbers[place] = place + 1;
        }
        return numbers;
    }

    static long[] falling(int size) {
        long[] numbers = new long[size];
        for (int place = 0; place < size; place++) {
            numbers[place] = size - place;
        }
        return numbers;
    }

    static long[] alike(int size, long number) {
        long[] numbers = new long[size];
        Arrays.fill(numbers, number);
        return numbers;
    }

    static Spanjudge withRow(char kind, int row, long... numbers) {
        return Due.with(kind, row, numbers);
    }

    /** Row 0 of these numbers and span 0 all of it, row 1 of the other ones and span 11 all of it. */
    static Spanjudge withTwo(char kind, long[] one, long[] other) {
        Spanjudge x = Due.with(kind, 0, one);
        Due.put(x, kind, 1, other);
        x.span(0, 0, 0, one.length);
        x.span(11, 1, 0, other.length);
        return x;
    }

    /** All sixteen rows have 32 numbers. */
    static Spanjudge full() {
        Spanjudge x = new Spanjudge();
        eachRow((kind, row) -> {
            Due.put(x, kind, row, -1, row, kind, -128);
            x.repeat(kind, row, 8);
        });
        return x;
    }

    /**
     * Of each kind a row of three numbers, one of two, one without numbers and one of 32, no two rows with
     * numbers the same; spans 6, 9 and 11 do not fit; the list has the others.
     */
    static Spanjudge busy() {
        Spanjudge x = new Spanjudge();
        for (int place = 0; place < 4; place++) {
            char kind = KINDS[place];
            Due.put(x, kind, 0, least(kind), 10 + place, most(kind));
            Due.put(x, kind, 1, -20 - place, 5);
            Due.put(x, kind, 3, 40 + place, -1, 0, place);
            x.repeat(kind, 3, 8);
        }
        int[][] spans = {{0, 0, 3}, {0, 0, 2}, {0, 1, 3}, {1, 0, 2}, {1, 1, 1}, {2, 0, 0},
            {2, 0, 1}, {3, 0, 32}, {3, 31, 32}, {1, 2, 3}, {3, 5, 9}, {0, 0, 4}};
        for (int span = 0; span < 12; span++) {
            x.span(span, spans[span][0], spans[span][1], spans[span][2]);
        }
        x.sort('i', 's');
        return x;
    }
}
