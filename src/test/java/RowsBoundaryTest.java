import java.math.BigInteger;
import java.util.ArrayList;
import java.util.List;

/** The boundary cases of promises 1 to 10. */
public final class RowsBoundaryTest {
    private static final long NEW_CHECKSUM = BigInteger.valueOf(31).pow(53).multiply(BigInteger.valueOf(7)).longValue();
    private static final int[] SIZES = {0, 1, 2, 31, 32};

    private static final Cases cases = new Cases("RowsBoundaryTest");

    public static void main(String[] args) {
        newObject();
        twoObjects();
        append();
        appendRefused();
        set();
        setRefused();
        number();
        length();
        clear();
        repeat();
        repeatRefused();
        reverse();
        cut();
        cutRefused();
        convertOneNumber();
        convertRows();
        convertRefused();
        convertFirstDocumented();
        cases.end();
    }

    private static void newObject() {
        cases.test("1", "all rows are without numbers: none has a length or a first place", () ->
            Edges.eachRow((kind, row) -> {
                cases.is(0, new Spanjudge().length(kind, row));
                cases.refuses(Cases.INDEX, Spanjudge::new, x -> x.number(kind, row, 0));
            }));
        cases.test("1", "all spans are those of row 0 from 0 to 0", () -> {
            Spanjudge x = new Spanjudge();
            for (int span = 0; span < 12; span++) {
                cases.is(List.of(0, 0, 0), State.span(x, span));
            }
        });
        cases.test("1", "nothing is sorted: the list has no place", () ->
            cases.refuses(Cases.INDEX, Spanjudge::new, x -> x.sorted(0), x -> x.sorted(11)));
        cases.test("1", "a new object is so behind others too", () -> {
            String first = State.of(new Spanjudge());
            Edges.busy();
            Edges.full();
            cases.is(first, State.of(new Spanjudge()));
            cases.is(NEW_CHECKSUM, new Spanjudge().checksum());
        });
    }

    private static void twoObjects() {
        cases.test("1", "two objects have nothing of each other: rows, spans and list", () -> {
            Spanjudge one = Edges.busy();
            String before = State.of(one);
            Spanjudge other = Edges.busy();
            other.sort('b', 'u');
            Edges.eachRow((kind, row) -> other.reverse(kind, row));
            for (int span = 0; span < 12; span++) {
                other.span(span, 3, 11 - span, 12);
            }
            other.sort('l', 'u');
            cases.is(before, State.of(one));
            long after = other.checksum();
            one.sort('s', 's');
            Edges.eachRow((kind, row) -> one.clear(kind, row));
            cases.is(after, other.checksum());
        });
        cases.test("1", "two objects that are asked in turn about endings and factors", () -> {
            Spanjudge one = Edges.withRow('b', 0, Edges.rising(32));
            Spanjudge other = Edges.withRow('b', 0, Edges.alike(31, 2));
            for (int place = 0; place < 31; place++) {
                cases.is(place, one.ending('b', 's', 0, place));
                cases.is(30 - place, other.ending('b', 's', 0, place));
                cases.is(1, one.factors('b', 'u', 0));
                cases.is(31, other.factors('b', 'u', 0));
            }
        });
    }

    private static void append() {
        cases.test("2", "returns the length then: 1 for the first number up to 32 for the last one", () ->
            Edges.eachRow((kind, row) -> {
                Spanjudge x = new Spanjudge();
                for (int count = 1; count <= 32; count++) {
                    cases.is(count, x.append(kind, row, -count));
                    cases.is(count, x.length(kind, row));
                }
            }));
        cases.test("2", "puts it behind the row, and changes nothing else", () ->
            Edges.eachRow((kind, row) -> {
                if (row != 3) {
                    Spanjudge x = Edges.busy();
                    List<Long> due = State.row(x, kind, row);
                    due.add(77L);
                    x.append(kind, row, 77);
                    cases.is(due, State.row(x, kind, row));
                    x.cut(kind, row, 0, due.size() - 1);
                    cases.is(State.of(Edges.busy()), State.of(x));
                }
            }));
        cases.test("2", "the least and the greatest number of each kind, and -1, 0 and 1", () ->
            Edges.eachRow((kind, row) -> {
                long[] numbers = {Edges.least(kind), -1, 0, 1, Edges.most(kind)};
                cases.is(Edges.longs(numbers), State.row(Edges.withRow(kind, row, numbers), kind, row));
            }));
        cases.test("2", "a row of 31 numbers takes one more, though all others are full", () ->
            Edges.eachRow((kind, row) -> {
                Spanjudge x = Edges.full();
                x.cut(kind, row, 1, 32);
                cases.is(32, x.append(kind, row, 5));
                cases.is(5L, x.number(kind, row, 31));
            }));
        cases.test("2", "a row that was full takes numbers again", () -> {
            Spanjudge x = Edges.full();
            x.clear('s', 2);
            cases.is(1, x.append('s', 2, 6));
            x.cut('i', 0, 0, 31);
            cases.is(32, x.append('i', 0, 6));
        });
    }

    private static void appendRefused() {
        cases.noKind("2", kind -> x -> x.append(kind, 0, 1));
        for (char kind : new char[] {'b', 's', 'i'}) {
            cases.refused("2", "throws IllegalArgumentException if this is no number of " + kind, Cases.ARGUMENT,
                    Edges::busy, Edges.each(Edges.numbersBeyond(kind), number -> x -> x.append(kind, 1, number)));
        }
        cases.test("2", "each number of long is one of l", () -> cases.is(List.of(), Edges.numbersBeyond('l')));
        cases.noRow("2", (kind, row) -> x -> x.append(kind, row, 1));
        for (char kind : Edges.KINDS) {
            cases.refused("2", "throws IllegalStateException if the row has 32 numbers, of " + kind, Cases.STATE, Edges::busy,
                    Edges.each(Edges.numbersOf(kind), number -> x -> x.append(kind, 3, number)));
        }
        cases.test("2", "throws IllegalStateException if the row has 32 numbers, put one by one", () ->
            Edges.eachRow((kind, row) -> cases.refuses(Cases.STATE, () -> Edges.withRow(kind, row, Edges.rising(32)),
                    x -> x.append(kind, row, 1))));
        cases.refused("2", "no such kind ahead of no such row", Cases.ARGUMENT, Edges::busy,
                x -> x.append('x', 4, 1), x -> x.append('B', -1, 1), x -> x.append('L', Integer.MAX_VALUE, 1));
        cases.refused("2", "no number of the kind ahead of no such row", Cases.ARGUMENT, Edges::busy,
                x -> x.append('b', 4, 128), x -> x.append('s', -1, -32769), x -> x.append('i', 4, 2147483648L));
        cases.refused("2", "no number of the kind ahead of a full row", Cases.ARGUMENT, Edges::busy,
                x -> x.append('b', 3, -129), x -> x.append('s', 3, 32768), x -> x.append('i', 3, -2147483649L));
        cases.refused("2", "no such kind ahead of a full row", Cases.ARGUMENT, Edges::busy, x -> x.append('x', 3, 1));
        cases.refused("2", "no such kind, and a number of none but l", Cases.ARGUMENT, Edges::busy,
                x -> x.append('x', 0, Long.MAX_VALUE), x -> x.append('x', 4, Long.MIN_VALUE));
    }

    private static void set() {
        for (int size : new int[] {1, 2, 32}) {
            cases.test("3", "the first and the last place of a row of " + size + ", and returns what stood there", () ->
                Edges.eachRow((kind, row) -> {
                    Spanjudge x = Edges.withRow(kind, row, Edges.rising(size));
                    cases.is(1L, x.set(kind, row, 0, Edges.least(kind)));
                    cases.is(size == 1 ? Edges.least(kind) : size, x.set(kind, row, size - 1, Edges.most(kind)));
                    cases.is(Edges.most(kind), x.set(kind, row, size - 1, -1));
                    cases.is(-1L, x.set(kind, row, size - 1, -1));
                    cases.is(size == 1 ? -1 : Edges.least(kind), x.set(kind, row, 0, 0));
                    cases.is(size, x.length(kind, row));
                }));
        }
        cases.test("3", "changes that place alone", () -> {
            for (int place = 0; place < 32; place++) {
                Spanjudge x = Edges.busy();
                List<Long> due = State.row(x, 's', 3);
                long before = x.set('s', 3, place, 99);
                cases.is(due.set(place, 99L), before);
                cases.is(due, State.row(x, 's', 3));
                x.set('s', 3, place, before);
                cases.is(State.of(Edges.busy()), State.of(x));
            }
        });
        cases.test("3", "puts each number of the kind, the least and the greatest one too", () -> {
            for (char kind : Edges.KINDS) {
                for (long number : Edges.numbersOf(kind)) {
                    Spanjudge x = Edges.withRow(kind, 2, 3);
                    cases.is(3L, x.set(kind, 2, 0, number));
                    cases.is(number, x.set(kind, 2, 0, 3));
                }
            }
        });
    }

    private static void setRefused() {
        cases.noKind("3", kind -> x -> x.set(kind, 0, 0, 1));
        for (char kind : new char[] {'b', 's', 'i'}) {
            cases.refused("3", "throws IllegalArgumentException if this is no number of " + kind, Cases.ARGUMENT,
                    Edges::busy, Edges.each(Edges.numbersBeyond(kind), number -> x -> x.set(kind, 0, 0, number)));
        }
        cases.noRow("3", (kind, row) -> x -> x.set(kind, row, 0, 1));
        for (int size : SIZES) {
            cases.test("3", "throws IndexOutOfBoundsException if there is no such place, of " + size + " numbers", () ->
                Edges.eachRow((kind, row) -> cases.refuses(Cases.INDEX,
                        () -> Edges.withRow(kind, row, Edges.rising(size)),
                        Edges.each(Edges.intsOutside(0, size - 1), place -> x -> x.set(kind, row, place, 1)))));
        }
        cases.test("3", "a place that was is none any more", () -> cases.refuses(Cases.INDEX, () -> {
            Spanjudge x = Edges.withRow('b', 0, 1, 2, 3);
            x.cut('b', 0, 0, 2);
            return x;
        }, x -> x.set('b', 0, 2, 1)));
        cases.refused("3", "no such kind ahead of no such row or place", Cases.ARGUMENT, Edges::busy,
                x -> x.set('x', 4, 0, 1), x -> x.set('x', 0, 3, 1), x -> x.set('x', -1, -1, 1));
        cases.refused("3", "no number of the kind ahead of no such row or place", Cases.ARGUMENT, Edges::busy,
                x -> x.set('b', 4, 0, 128), x -> x.set('s', 0, 3, 32768), x -> x.set('i', -1, -1, -2147483649L),
                x -> x.set('b', 2, 0, -129));
    }

    private static void number() {
        cases.test("4", "each place of a full row, the first and the last one too", () ->
            Edges.eachRow((kind, row) -> {
                Spanjudge x = Edges.withRow(kind, row, Edges.falling(32));
                for (int place = 0; place < 32; place++) {
                    cases.is(32L - place, x.number(kind, row, place));
                }
            }));
        cases.test("4", "the least and the greatest number as they are", () -> {
            for (char kind : Edges.KINDS) {
                Spanjudge x = Edges.withRow(kind, 3, Edges.least(kind), Edges.most(kind));
                cases.is(Edges.least(kind), x.number(kind, 3, 0));
                cases.is(Edges.most(kind), x.number(kind, 3, 1));
            }
        });
        cases.noKind("4", kind -> x -> x.number(kind, 0, 0));
        cases.noRow("4", (kind, row) -> x -> x.number(kind, row, 0));
        for (int size : SIZES) {
            cases.test("4", "throws IndexOutOfBoundsException if there is no such place, of " + size + " numbers", () ->
                Edges.eachRow((kind, row) -> cases.refuses(Cases.INDEX,
                        () -> Edges.withRow(kind, row, Edges.rising(size)),
                        Edges.each(Edges.intsOutside(0, size - 1), place -> x -> x.number(kind, row, place)))));
        }
        cases.test("4", "a place that was is none any more", () -> cases.refuses(Cases.INDEX, () -> {
            Spanjudge x = Edges.withRow('l', 1, 1, 2, 3);
            x.clear('l', 1);
            return x;
        }, x -> x.number('l', 1, 0), x -> x.number('l', 1, 2)));
        cases.refused("4", "no such kind ahead of no such row or place", Cases.ARGUMENT, Edges::busy,
                x -> x.number('x', 4, 0), x -> x.number('x', 0, 3), x -> x.number('x', -1, -1));
    }

    private static void length() {
        for (int size : SIZES) {
            cases.test("5", "returns how many, of " + size + " numbers", () -> Edges.eachRow((kind, row) ->
                    cases.is(size, Edges.withRow(kind, row, Edges.rising(size)).length(kind, row))));
        }
        cases.test("5", "is that of this row of this kind alone", () -> {
            Spanjudge x = Edges.busy();
            Edges.eachRow((kind, row) -> cases.is(new int[] {3, 2, 0, 32}[row], x.length(kind, row)));
        });
        cases.noKind("5", kind -> x -> x.length(kind, 0));
        cases.noRow("5", (kind, row) -> x -> x.length(kind, row));
        cases.refused("5", "no such kind ahead of no such row", Cases.ARGUMENT, Edges::busy,
                x -> x.length('x', 4), x -> x.length('x', -1));
    }

    private static void clear() {
        for (int size : SIZES) {
            cases.test("6", "returns how many it had, of " + size + " numbers, and none are left", () ->
                Edges.eachRow((kind, row) -> {
                    Spanjudge x = Edges.withRow(kind, row, Edges.rising(size));
                    cases.is(size, x.clear(kind, row));
                    cases.is(0, x.length(kind, row));
                    cases.is(0, x.clear(kind, row));
                    cases.is(State.of(new Spanjudge()), State.of(x));
                }));
        }
        cases.test("6", "takes the numbers of this row away alone; spans and list stay", () ->
            Edges.eachRow((kind, row) -> {
                Spanjudge x = Edges.busy();
                List<Long> before = State.row(x, kind, row);
                x.clear(kind, row);
                cases.is(List.of(), State.row(x, kind, row));
                before.forEach(number -> x.append(kind, row, number));
                cases.is(State.of(Edges.busy()), State.of(x));
            }));
        cases.noKind("6", kind -> x -> x.clear(kind, 0));
        cases.noRow("6", (kind, row) -> x -> x.clear(kind, row));
        cases.refused("6", "no such kind ahead of no such row", Cases.ARGUMENT, Edges::busy,
                x -> x.clear('x', 4), x -> x.clear('x', -1));
    }

    private static List<Long> times(List<Long> numbers, int times) {
        List<Long> all = new ArrayList<>();
        for (int time = 0; time < times; time++) {
            all.addAll(numbers);
        }
        return all;
    }

    private static void repeat() {
        for (int times = 1; times <= 8; times++) {
            int asked = times;
            cases.test("7", times + " times: each length that has at most 32 numbers then", () ->
                Edges.eachRow((kind, row) -> {
                    for (int size = 0; size * asked <= 32; size++) {
                        Spanjudge x = Edges.withRow(kind, row, Edges.rising(size));
                        cases.is(size + " numbers", size * asked, x.repeat(kind, row, asked));
                        cases.is(times(Edges.longs(Edges.rising(size)), asked), State.row(x, kind, row));
                    }
                }));
            cases.test("7", times + " times: throws IllegalStateException for each greater length", () ->
                Edges.eachRow((kind, row) -> {
                    for (int size = 32 / asked + 1; size <= 32; size++) {
                        long[] numbers = Edges.rising(size);
                        cases.refuses(Cases.STATE, () -> Edges.withRow(kind, row, numbers), x -> x.repeat(kind, row, asked));
                    }
                }));
        }
        cases.test("7", "a row without numbers stays so, 8 times too", () -> {
            Spanjudge x = Edges.busy();
            for (int times = 1; times <= 8; times++) {
                cases.is(0, x.repeat('i', 2, times));
            }
            cases.is(State.of(Edges.busy()), State.of(x));
        });
        cases.test("7", "once, it stays what it is, a full row too", () -> {
            Spanjudge x = Edges.busy();
            Edges.eachRow((kind, row) -> cases.is(new int[] {3, 2, 0, 32}[row], x.repeat(kind, row, 1)));
            cases.is(State.of(Edges.busy()), State.of(x));
        });
        cases.test("7", "changes this row alone", () -> {
            Spanjudge x = Edges.busy();
            cases.is(24, x.repeat('b', 0, 8));
            cases.is(3, x.cut('b', 0, 21, 24));
            cases.is(State.of(Edges.busy()), State.of(x));
        });
    }

    private static void repeatRefused() {
        cases.noKind("7", kind -> x -> x.repeat(kind, 0, 2));
        cases.test("7", "throws IllegalArgumentException if times is out of range, 1 to 8", () ->
            Edges.eachRow((kind, row) -> cases.refuses(Cases.ARGUMENT, Edges::busy,
                    Edges.each(Edges.intsOutside(1, 8), times -> x -> x.repeat(kind, row, times)))));
        cases.noRow("7", (kind, row) -> x -> x.repeat(kind, row, 1));
        cases.refused("7", "no such kind ahead of no such row", Cases.ARGUMENT, Edges::busy,
                x -> x.repeat('x', 4, 1), x -> x.repeat('x', -1, 8));
        cases.refused("7", "times out of range ahead of no such row", Cases.ARGUMENT, Edges::busy,
                x -> x.repeat('b', 4, 0), x -> x.repeat('s', -1, 9), x -> x.repeat('l', 4, Integer.MIN_VALUE));
        cases.refused("7", "times out of range ahead of more than 32 numbers, though an int of the length would go round",
                Cases.ARGUMENT, Edges::busy, x -> x.repeat('b', 3, 9), x -> x.repeat('s', 3, 1 << 27),
                x -> x.repeat('i', 3, Integer.MAX_VALUE), x -> x.repeat('l', 0, 11));
        cases.refused("7", "no such kind ahead of more than 32 numbers", Cases.ARGUMENT, Edges::busy,
                x -> x.repeat('x', 3, 2));
    }

    private static void reverse() {
        for (int size : new int[] {0, 1, 2, 3, 31, 32}) {
            cases.test("8", "turns about and returns the length, of " + size + " numbers", () ->
                Edges.eachRow((kind, row) -> {
                    Spanjudge x = Edges.withRow(kind, row, Edges.rising(size));
                    cases.is(size, x.reverse(kind, row));
                    cases.is(Edges.longs(Edges.falling(size)), State.row(x, kind, row));
                    cases.is(size, x.reverse(kind, row));
                    cases.is(Edges.longs(Edges.rising(size)), State.row(x, kind, row));
                }));
        }
        cases.test("8", "changes this row alone", () -> Edges.eachRow((kind, row) -> {
            Spanjudge x = Edges.busy();
            List<Long> before = State.row(x, kind, row);
            x.reverse(kind, row);
            cases.is(Edges.turnedAbout(before), State.row(x, kind, row));
            x.reverse(kind, row);
            cases.is(State.of(Edges.busy()), State.of(x));
        }));
        cases.noKind("8", kind -> x -> x.reverse(kind, 0));
        cases.noRow("8", (kind, row) -> x -> x.reverse(kind, row));
        cases.refused("8", "no such kind ahead of no such row", Cases.ARGUMENT, Edges::busy,
                x -> x.reverse('x', 4), x -> x.reverse('x', -1));
    }

    private static void cut() {
        for (int size : SIZES) {
            cases.test("9", "each part, the whole and those without numbers too, of " + size + " numbers", () ->
                Edges.eachRow((kind, row) -> {
                    List<Long> numbers = Edges.longs(Edges.rising(size));
                    for (int from = 0; from <= size; from++) {
                        for (int to = from; to <= size; to++) {
                            Spanjudge x = Edges.withRow(kind, row, Edges.rising(size));
                            cases.is(to - from, x.cut(kind, row, from, to));
                            cases.is(numbers.subList(from, to), State.row(x, kind, row));
                        }
                    }
                }));
        }
        cases.test("9", "what is put behind comes behind the part", () -> {
            Spanjudge x = Edges.withRow('s', 1, 1, 2, 3, 4);
            x.cut('s', 1, 1, 2);
            x.append('s', 1, 9);
            cases.is(Edges.longs(2, 9), State.row(x, 's', 1));
        });
        cases.test("9", "the whole changes nothing", () -> {
            Spanjudge x = Edges.busy();
            Edges.eachRow((kind, row) -> x.cut(kind, row, 0, new int[] {3, 2, 0, 32}[row]));
            cases.is(State.of(Edges.busy()), State.of(x));
        });
    }

    private static void cutRefused() {
        cases.noKind("9", kind -> x -> x.cut(kind, 0, 0, 1));
        cases.noRow("9", (kind, row) -> x -> x.cut(kind, row, 0, 0));
        for (int size : SIZES) {
            String ofSize = ", of " + size + " numbers";
            cutOutside("throws IndexOutOfBoundsException if from is below 0" + ofSize, size, cutBelow(size));
            cutOutside("throws IndexOutOfBoundsException if to is above the length" + ofSize, size, cutAbove(size));
            cutOutside("throws IndexOutOfBoundsException if to is below from" + ofSize, size, cutTurned(size));
        }
        cases.refused("9", "no such kind ahead of no such row and of a range that is none", Cases.ARGUMENT, Edges::busy,
                x -> x.cut('x', 4, 0, 0), x -> x.cut('x', 0, 2, 1), x -> x.cut('x', -1, -1, 99));
        cases.refused("9", "no such row, and a range that is none", Cases.INDEX, Edges::busy,
                x -> x.cut('b', 4, -1, 1), x -> x.cut('l', -1, 1, 0));
    }

    private static void cutOutside(String sentence, int size, List<int[]> ranges) {
        cases.test("9", sentence, () -> Edges.eachRow((kind, row) -> cases.refuses(Cases.INDEX,
                () -> Edges.withRow(kind, row, Edges.rising(size)),
                Edges.each(ranges, range -> x -> x.cut(kind, row, range[0], range[1])))));
    }

    private static List<int[]> cutBelow(int size) {
        List<int[]> ranges = new ArrayList<>();
        for (int from : Edges.intsOutside(0, Integer.MAX_VALUE)) {
            for (int to : new int[] {0, size, from, Integer.MAX_VALUE}) {
                ranges.add(new int[] {from, to});
            }
        }
        return ranges;
    }

    private static List<int[]> cutAbove(int size) {
        List<int[]> ranges = new ArrayList<>();
        for (int to : Edges.intsOutside(Integer.MIN_VALUE + 2, size)) {
            if (to > size) {
                for (int from : new int[] {0, size, to}) {
                    ranges.add(new int[] {from, to});
                }
            }
        }
        return ranges;
    }

    private static List<int[]> cutTurned(int size) {
        List<int[]> ranges = new ArrayList<>();
        ranges.add(new int[] {size, Integer.MIN_VALUE});
        for (int to = -1; to <= size; to++) {
            ranges.add(new int[] {to + 1, to});
            ranges.add(new int[] {size + 1, to});
            ranges.add(new int[] {Integer.MAX_VALUE, to});
        }
        return ranges;
    }

    /** As the document's words say it, without a machine's numbers. */
    private static BigInteger converted(char kind, char how, long number) {
        BigInteger it = BigInteger.valueOf(number);
        BigInteger half = BigInteger.TWO.pow(Edges.bits(kind) - 1);
        if (how == 'u') {
            return number < 0 ? it.add(half).add(half) : it;
        }
        if (how == 't') {
            return number < 0 ? it.add(half) : it.subtract(half);
        }
        return it;
    }

    private static boolean isNumberOf(char kind, BigInteger number) {
        return number.compareTo(BigInteger.valueOf(Edges.least(kind))) >= 0
                && number.compareTo(BigInteger.valueOf(Edges.most(kind))) <= 0;
    }

    private static void convertOneNumber() {
        for (char how : new char[] {'n', 'u', 't'}) {
            for (char kind : Edges.KINDS) {
                for (char other : Edges.KINDS) {
                    String name = how + " of " + kind + " into " + other + ": ";
                    cases.test("10", name + "each number that becomes one of the other kind, up to the least and the greatest", () -> {
                        for (long number : Edges.numbersOf(kind)) {
                            BigInteger due = converted(kind, how, number);
                            if (isNumberOf(other, due)) {
                                Spanjudge x = Edges.withRow(kind, 1, number);
                                cases.is(name + number, 1, x.convert(kind, 1, other, 2, how));
                                cases.is(name + number, List.of(due.longValueExact()), State.row(x, other, 2));
                                cases.is(name + number, List.of(number), State.row(x, kind, 1));
                            }
                        }
                    });
                    cases.test("10", name + "throws IllegalStateException for each one that does not", () -> {
                        for (long number : Edges.numbersOf(kind)) {
                            if (!isNumberOf(other, converted(kind, how, number))) {
                                Spanjudge x = Edges.withRow(kind, 1, number);
                                x.append(other, 2, 77);
                                cases.refuses(Cases.STATE, () -> x, y -> y.convert(kind, 1, other, 2, how));
                            }
                        }
                    });
                }
            }
        }
    }

    private static void convertRows() {
        for (int size : SIZES) {
            cases.test("10", "returns the length, whatever the other row had, of " + size + " numbers", () -> {
                for (char other : Edges.KINDS) {
                    for (int had : SIZES) {
                        Spanjudge x = Edges.withRow('b', 1, Edges.rising(size));
                        Due.put(x, other, 3, Edges.alike(had, -9));
                        cases.is(size, x.convert('b', 1, other, 3, 'n'));
                        cases.is(Edges.longs(Edges.rising(size)), State.row(x, other, 3));
                        cases.is(Edges.longs(Edges.rising(size)), State.row(x, 'b', 1));
                    }
                }
            });
        }
        cases.test("10", "each row of each kind into each row of each kind; this row stays", () ->
            Edges.eachRow((kind, row) -> Edges.eachRow((other, otherRow) -> {
                if (kind != other || row != otherRow) {
                    Spanjudge x = Edges.withRow(kind, row, 3, 100, 4);
                    Due.put(x, other, otherRow, 8);
                    cases.is(3, x.convert(kind, row, other, otherRow, 'u'));
                    cases.is(Edges.longs(3, 100, 4), State.row(x, other, otherRow));
                    cases.is(Edges.longs(3, 100, 4), State.row(x, kind, row));
                }
            })));
        cases.test("10", "into the same row: it does not stay", () -> Edges.eachRow((kind, row) -> {
            Spanjudge x = Edges.withRow(kind, row, Edges.least(kind), -1, 0, Edges.most(kind));
            cases.is(4, x.convert(kind, row, kind, row, 't'));
            cases.is(Edges.longs(0, Edges.most(kind), Edges.least(kind), -1), State.row(x, kind, row));
        }));
        cases.test("10", "into the same row as it is: it stays", () -> {
            Spanjudge x = Edges.busy();
            Edges.eachRow((kind, row) -> x.convert(kind, row, kind, row, 'n'));
            cases.is(State.of(Edges.busy()), State.of(x));
        });
        cases.test("10", "u into the same row, of numbers not below 0: it stays", () -> Edges.eachRow((kind, row) -> {
            Spanjudge x = Edges.withRow(kind, row, 0, 1, Edges.most(kind));
            cases.is(3, x.convert(kind, row, kind, row, 'u'));
            cases.is(Edges.longs(0, 1, Edges.most(kind)), State.row(x, kind, row));
        }));
        cases.test("10", "a row without numbers has none that is no number of the other kind", () -> {
            Spanjudge x = Edges.withRow('b', 0, 1, 2);
            cases.is(0, x.convert('l', 0, 'b', 0, 'u'));
            cases.is(0, x.length('b', 0));
        });
        cases.test("10", "changes that row alone", () -> {
            Spanjudge x = Edges.busy();
            cases.is(32, x.convert('b', 3, 'l', 2, 't'));
            x.clear('l', 2);
            cases.is(State.of(Edges.busy()), State.of(x));
        });
    }

    private static void convertRefused() {
        for (char other : Edges.KINDS) {
            cases.refused("10", "throws IllegalArgumentException if there is no such kind, into " + other, Cases.ARGUMENT,
                    Edges::busy, Edges.each(Edges.charsBut("bsil"), kind -> x -> x.convert(kind, 0, other, 2, 'n')));
            cases.refused("10", "throws IllegalArgumentException if there is no such other kind, of " + other, Cases.ARGUMENT,
                    Edges::busy, Edges.each(Edges.charsBut("bsil"), kind -> x -> x.convert(other, 0, kind, 2, 'n')));
            cases.refused("10", "throws IllegalArgumentException if there is no such how, of " + other, Cases.ARGUMENT,
                    Edges::busy, Edges.each(Edges.charsBut("nut"), how -> x -> x.convert(other, 0, 'l', 2, how)));
        }
        cases.noRow("10", (kind, row) -> x -> x.convert(kind, row, 'l', 1, 'n'));
        cases.noRow("10", (kind, row) -> x -> x.convert('b', 1, kind, row, 'n'));
        for (int place = 0; place < 32; place++) {
            int asked = place;
            cases.test("10", "one that is no number of the other kind, at place " + place + ", and nothing is changed", () -> {
                long[] numbers = Edges.rising(32);
                numbers[asked] = 128;
                cases.refuses(Cases.STATE, () -> besides('s', numbers, 'b'), x -> x.convert('s', 3, 'b', 2, 'n'));
                numbers[asked] = -1;
                cases.refuses(Cases.STATE, () -> besides('b', numbers, 'b'), x -> x.convert('b', 3, 'b', 2, 'u'),
                        x -> x.convert('b', 3, 'b', 3, 'u'));
                cases.refuses(Cases.STATE, () -> besides('l', numbers, 'l'), x -> x.convert('l', 3, 'l', 2, 'u'),
                        x -> x.convert('l', 3, 'l', 3, 'u'));
                long[] turned = Edges.alike(32, Short.MIN_VALUE);
                turned[asked] = 0;
                cases.refuses(Cases.STATE, () -> besides('s', turned, 'b'), x -> x.convert('s', 3, 'b', 2, 't'));
            });
        }
    }

    /** Row 3 of these numbers, and row 2 of the other kind full of others. */
    private static Spanjudge besides(char kind, long[] numbers, char other) {
        Spanjudge x = Edges.withRow(kind, 3, numbers);
        Due.put(x, other, 2, 50, 51, 52, 53);
        x.repeat(other, 2, 8);
        return x;
    }

    private static void convertFirstDocumented() {
        cases.refused("10", "no such kind or how ahead of no such row", Cases.ARGUMENT, Edges::busy,
                x -> x.convert('x', 4, 'b', 0, 'n'), x -> x.convert('b', 4, 'x', 0, 'n'), x -> x.convert('b', 4, 'b', 0, 'x'),
                x -> x.convert('x', 0, 'b', 4, 'n'), x -> x.convert('b', 0, 'x', 4, 'n'), x -> x.convert('b', 0, 'b', 4, 'x'),
                x -> x.convert('x', -1, 'x', -1, 'x'));
        cases.refused("10", "no such kind or how ahead of no number of the other kind", Cases.ARGUMENT, Edges::busy,
                x -> x.convert('s', 0, 'x', 1, 'n'), x -> x.convert('s', 0, 'b', 1, 'x'), x -> x.convert('l', 0, 'b', 1, 'N'));
        cases.refused("10", "no such row ahead of no number of the other kind", Cases.INDEX, Edges::busy,
                x -> x.convert('s', 0, 'b', 4, 'n'), x -> x.convert('l', 0, 'l', -1, 'u'), x -> x.convert('i', 0, 's', 4, 't'));
        cases.refused("10", "neither the one row nor the other", Cases.INDEX, Edges::busy,
                x -> x.convert('s', 4, 'b', 4, 'n'), x -> x.convert('s', -1, 'b', -1, 'u'));
    }
}
