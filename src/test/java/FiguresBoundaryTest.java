import java.math.BigInteger;
import java.util.ArrayList;
import java.util.List;

/** The boundary cases of promises 31 to 35. */
public final class FiguresBoundaryTest {
    private static final Cases cases = new Cases("FiguresBoundaryTest");

    public static void main(String[] args) {
        share();
        shareRefused();
        mean();
        checksum();
        checksumGoesRound();
        checksumTellsAll();
        isTrue();
        isTrueRefused();
        rowIsTrue();
        rowIsTrueBehindOthers();
        rowIsTrueRefused();
        cases.end();
    }

    /** The first spans have the words of row 2 from their number on, one number each; the others do not fit. */
    private static Spanjudge fitting(char kind, long... numbers) {
        Spanjudge x = Edges.withRow(kind, 2, numbers);
        for (int span = 0; span < 12; span++) {
            x.span(span, 2, span, span + 1);
        }
        return x;
    }

    private static void share() {
        for (char kind : Edges.KINDS) {
            cases.test("31", "two that fit: 1 if they are the same word, otherwise 0, of " + kind, () -> {
                cases.is(1.0f, fitting(kind, -1, -1).share(kind));
                cases.is(0.0f, fitting(kind, -1, 1).share(kind));
                cases.is(0.0f, fitting(kind, Edges.least(kind), 0).share(kind));
            });
            cases.test("31", "the first and the last span alone fit, of " + kind, () -> {
                Spanjudge x = fitting(kind, 4);
                x.span(11, 2, 0, 1);
                cases.is(1.0f, x.share(kind));
                x.span(11, 2, 0, 0);
                cases.is(0.0f, x.share(kind));
            });
            cases.test("31", "three that fit are three pairs, of " + kind, () -> {
                cases.is(1.0f / 3.0f, fitting(kind, 5, 6, 5).share(kind));
                cases.is(1.0f, fitting(kind, 5, 5, 5).share(kind));
                cases.is(0.0f, fitting(kind, 5, 6, 7).share(kind));
            });
            cases.test("31", "twelve that fit are 66 pairs, and so many of the same word are some of them, of " + kind, () -> {
                for (int same = 1; same <= 12; same++) {
                    long[] numbers = Edges.rising(12);
                    for (int place = 0; place < same; place++) {
                        numbers[place] = 99;
                    }
                    cases.is((float) (same * (same - 1) / 2) / 66.0f, fitting(kind, numbers).share(kind));
                }
            });
        }
        cases.test("31", "two different spans may tell the same row, from and to: all twelve of a new object", () -> {
            for (char kind : Edges.KINDS) {
                cases.is(1.0f, new Spanjudge().share(kind));
            }
        });
        cases.test("31", "words without numbers of several rows are the same word", () -> {
            Spanjudge x = fitting('b');
            x.span(3, 0, 0, 0);
            x.span(8, 3, 0, 0);
            cases.is(1.0f, x.share('b'));
        });
        cases.test("31", "a word that begins another one is not the same word", () -> {
            Spanjudge x = fitting('i', 1, 2, 3);
            x.span(0, 2, 0, 2);
            x.span(1, 2, 0, 3);
            x.span(2, 2, 0, 1);
            cases.is(0.0f, x.share('i'));
        });
    }

    private static void shareRefused() {
        for (char kind : Edges.KINDS) {
            cases.test("31", "throws IllegalStateException if fewer than two fit: none, of " + kind, () ->
                cases.refuses(Cases.STATE, () -> fitting(kind), x -> x.share(kind)));
            cases.test("31", "throws IllegalStateException if fewer than two fit: one, each of the twelve, of " + kind, () -> {
                for (int span = 0; span < 12; span++) {
                    int one = span;
                    cases.refuses(Cases.STATE, () -> {
                        Spanjudge x = fitting(kind);
                        x.span(one, 2, 0, 0);
                        return x;
                    }, x -> x.share(kind));
                }
            });
            cases.test("31", "throws IllegalStateException if two fit another kind than " + kind, () -> {
                for (char other : Edges.KINDS) {
                    if (other != kind) {
                        cases.refuses(Cases.STATE, () -> fitting(other, 1, 2), x -> x.share(kind));
                    }
                }
            });
        }
        cases.noKind("31", kind -> x -> x.share(kind));
        cases.test("31", "no such kind ahead of fewer than two that fit", () ->
            cases.refuses(Cases.ARGUMENT, () -> fitting('b'), x -> x.share('x'), x -> x.share('B')));
    }

    private static void mean() {
        for (char kind : Edges.KINDS) {
            cases.test("32", "0 for four rows without numbers, though other kinds have some, of " + kind, () -> {
                Spanjudge x = Edges.busy();
                for (int row = 0; row < 4; row++) {
                    x.clear(kind, row);
                }
                cases.is(0.0, x.mean(kind));
                cases.is(0.0, new Spanjudge().mean(kind));
            });
            cases.test("32", "a quarter for one number, in each row, of " + kind, () -> {
                for (int row = 0; row < 4; row++) {
                    cases.is(0.25, Edges.withRow(kind, row, -7).mean(kind));
                }
            });
            cases.test("32", "32 for four full rows, 31.75 for one number less, of " + kind, () -> {
                Spanjudge x = Edges.full();
                cases.is(32.0, x.mean(kind));
                for (int row = 0; row < 4; row++) {
                    Spanjudge y = Edges.full();
                    y.cut(kind, row, 0, 31);
                    cases.is(31.75, y.mean(kind));
                }
            });
            cases.test("32", "each sum of the lengths, divided by 4, of " + kind, () -> {
                for (int size = 0; size <= 32; size++) {
                    Spanjudge x = Edges.withRow(kind, 1, Edges.rising(size));
                    Due.put(x, kind, 3, 1, 2, 3);
                    cases.is((size + 3) * 0.25, x.mean(kind));
                }
            });
        }
        cases.noKind("32", kind -> x -> x.mean(kind));
    }

    /** The values in turn, of all that there is, with the sum left to numbers that do not go round. */
    private static BigInteger sumOf(Spanjudge x) {
        List<Long> values = new ArrayList<>();
        Edges.eachRow((kind, row) -> {
            List<Long> numbers = State.row(x, kind, row);
            values.add((long) numbers.size());
            values.addAll(numbers);
        });
        for (int span = 0; span < 12; span++) {
            State.span(x, span).forEach(value -> values.add((long) value));
        }
        List<Integer> list = State.list(x);
        values.add((long) list.size());
        list.forEach(value -> values.add((long) value));
        BigInteger sum = BigInteger.valueOf(7);
        for (long value : values) {
            sum = sum.multiply(BigInteger.valueOf(31)).add(BigInteger.valueOf(value));
        }
        return sum;
    }

    private static void checksum() {
        cases.test("33", "of a new object: 7, then 53 times 31 times itself plus 0", () ->
            cases.is(4059168157087069785L, new Spanjudge().checksum()));
        cases.test("33", "of the lengths of the sixteen rows, the spans and the list, each in its turn", () -> {
            Spanjudge x = Edges.busy();
            cases.is(sumOf(x).longValue(), x.checksum());
        });
        cases.test("33", "of a number in each row of each kind, the least and the greatest one", () ->
            Edges.eachRow((kind, row) -> {
                for (long number : new long[] {Edges.least(kind), -1, 0, Edges.most(kind)}) {
                    Spanjudge x = Edges.withRow(kind, row, number);
                    cases.is(sumOf(x).longValue(), x.checksum());
                }
            }));
        cases.test("33", "of a full row", () -> Edges.eachRow((kind, row) -> {
            Spanjudge x = Edges.withRow(kind, row, Edges.alike(32, Edges.least(kind)));
            cases.is(sumOf(x).longValue(), x.checksum());
        }));
        cases.test("33", "of the list: none, one, all twelve", () -> {
            for (int fitting = 0; fitting <= 12; fitting++) {
                Spanjudge x = fitting('i', Edges.falling(fitting));
                cases.is(fitting, x.sort('i', 's'));
                cases.is(sumOf(x).longValue(), x.checksum());
            }
        });
        cases.test("33", "once more it is the same, as it changes nothing", () -> {
            Spanjudge x = Edges.busy();
            long first = x.checksum();
            cases.is(first, x.checksum());
            cases.is(State.of(Edges.busy()), State.of(x));
        });
    }

    private static void checksumGoesRound() {
        cases.test("33", "a long that goes round: the sum is far above the greatest long", () -> {
            Spanjudge x = new Spanjudge();
            cases.is(true, sumOf(x).bitLength() > 64);
            cases.is(sumOf(x).longValue(), x.checksum());
        });
        cases.test("33", "a long that goes round: the least and the greatest long in it", () -> {
            for (long number : new long[] {Long.MIN_VALUE, Long.MAX_VALUE}) {
                Spanjudge x = Edges.withRow('l', 3, Edges.alike(32, number));
                cases.is(true, sumOf(x).bitLength() > 64);
                cases.is(sumOf(x).longValue(), x.checksum());
            }
        });
    }

    private static void checksumTellsAll() {
        cases.test("33", "each place of each row tells in it", () -> Edges.eachRow((kind, row) -> {
            for (int place = 0; place < 32; place++) {
                long[] numbers = Edges.alike(32, 0);
                numbers[place] = 1;
                Spanjudge x = Edges.withRow(kind, row, numbers);
                cases.is(sumOf(x).longValue(), x.checksum());
            }
        }));
        cases.test("33", "each row, from and to of each span tells in it", () -> {
            for (int span = 0; span < 12; span++) {
                for (int[] told : new int[][] {{3, 0, 0}, {0, 0, 32}, {0, 32, 32}, {1, 2, 5}}) {
                    Spanjudge x = new Spanjudge();
                    x.span(span, told[0], told[1], told[2]);
                    cases.is(sumOf(x).longValue(), x.checksum());
                }
            }
        });
        cases.test("33", "what a row or a list had tells no more in it", () -> {
            Spanjudge x = Edges.full();
            Edges.eachRow((kind, row) -> x.clear(kind, row));
            cases.is(new Spanjudge().checksum(), x.checksum());
            Spanjudge y = new Spanjudge();
            y.sort('b', 's');
            Spanjudge z = new Spanjudge();
            for (int span = 0; span < 12; span++) {
                y.span(span, 0, 0, 1);
                z.span(span, 0, 0, 1);
            }
            y.sort('b', 's');
            cases.is(z.checksum(), y.checksum());
        });
        cases.test("33", "the list is as it was sorted, not as it would be now", () -> {
            Spanjudge x = Edges.busy();
            x.clear('i', 3);
            cases.is(9, State.list(x).size());
            cases.is(sumOf(x).longValue(), x.checksum());
        });
    }

    private static void isTrue() {
        for (char kind : Edges.KINDS) {
            cases.test("34", "always true: each three of the words that there are, without numbers and of 32 too, of " + kind, () -> {
                int[] fitting = {0, 1, 2, 3, 4, 5, 7, 8, 10};
                for (int one : fitting) {
                    Spanjudge x = Edges.busy();
                    for (int other : fitting) {
                        for (int third : fitting) {
                            cases.is(true, x.isTrue(kind, one, other, third));
                        }
                    }
                    cases.is(State.of(Edges.busy()), State.of(x));
                }
            });
            cases.test("34", "always true: the first and the last span, and one three times, of " + kind, () -> {
                Spanjudge x = new Spanjudge();
                for (int span = 0; span < 12; span++) {
                    cases.is(true, x.isTrue(kind, span, 11 - span, span));
                    cases.is(true, x.isTrue(kind, span, span, span));
                }
            });
            cases.test("34", "always true: the least number, -1, 0 and the greatest one, of " + kind, () -> {
                Spanjudge x = fitting(kind, Edges.least(kind), Edges.least(kind) + 1, -1, 0, 1, Edges.most(kind));
                for (int one = 0; one < 6; one++) {
                    for (int other = 0; other < 6; other++) {
                        for (int third = 0; third < 6; third++) {
                            cases.is(true, x.isTrue(kind, one, other, third));
                        }
                    }
                }
            });
            cases.test("34", "always true: words that begin each other, and unlike at the last of 32, of " + kind, () -> {
                Spanjudge x = Edges.withTwo(kind, Edges.rising(32), Edges.rising(32));
                x.set(kind, 1, 31, Edges.least(kind));
                x.span(1, 0, 0, 31);
                x.span(2, 0, 0, 1);
                x.span(3, 0, 0, 0);
                int[] spans = {0, 1, 2, 3, 11};
                for (int one : spans) {
                    for (int other : spans) {
                        for (int third : spans) {
                            cases.is(true, x.isTrue(kind, one, other, third));
                        }
                    }
                }
            });
        }
    }

    private static void isTrueRefused() {
        cases.noKind("34", kind -> x -> x.isTrue(kind, 0, 1, 2));
        cases.noSpan("34", (kind, span) -> x -> x.isTrue(kind, span, 0, 1));
        cases.noSpan("34", (kind, span) -> x -> x.isTrue(kind, 0, span, 1));
        cases.noSpan("34", (kind, span) -> x -> x.isTrue(kind, 0, 1, span));
        for (char kind : Edges.KINDS) {
            cases.refused("34", "throws IllegalStateException if one of them does not fit, of " + kind, Cases.STATE, Edges::busy,
                    x -> x.isTrue(kind, 6, 0, 1), x -> x.isTrue(kind, 0, 9, 1), x -> x.isTrue(kind, 0, 1, 11),
                    x -> x.isTrue(kind, 6, 6, 6), x -> x.isTrue(kind, 11, 9, 0), x -> x.isTrue(kind, 0, 6, 9));
        }
        cases.refused("34", "no such kind ahead of no such span and of one that does not fit", Cases.ARGUMENT, Edges::busy,
                x -> x.isTrue('x', 12, 0, 1), x -> x.isTrue('x', 0, -1, 1), x -> x.isTrue('x', 0, 1, 12), x -> x.isTrue('x', 6, 0, 1));
        cases.refused("34", "no such span ahead of one that does not fit", Cases.INDEX, Edges::busy,
                x -> x.isTrue('b', 6, 12, 0), x -> x.isTrue('b', 6, 0, 12), x -> x.isTrue('b', 12, 6, 0), x -> x.isTrue('b', -1, 0, 6),
                x -> x.isTrue('b', 0, -1, 6), x -> x.isTrue('b', 6, 6, -1));
    }

    private static void truthOf(String sentence, long[] numbers) {
        cases.test("35", "always true: " + sentence, () -> Edges.eachRow((kind, row) -> {
            Spanjudge x = Edges.withRow(kind, row, numbers);
            String before = State.of(x);
            cases.is(true, x.rowIsTrue(kind, 's', row));
            cases.is(true, x.rowIsTrue(kind, 'u', row));
            x.reverse(kind, row);
            cases.is(true, x.rowIsTrue(kind, 's', row));
            cases.is(true, x.rowIsTrue(kind, 'u', row));
            x.reverse(kind, row);
            cases.is(before, State.of(x));
        }));
    }

    private static long[] repeated(int size, int... word) {
        long[] numbers = new long[size];
        for (int place = 0; place < size; place++) {
            numbers[place] = word[place % word.length];
        }
        return numbers;
    }

    private static void rowIsTrue() {
        truthOf("a row without numbers", new long[0]);
        truthOf("one number", new long[] {-1});
        truthOf("two alike", new long[] {-1, -1});
        truthOf("two unlike, by signs", new long[] {-1, 1});
        truthOf("31 alike", Edges.alike(31, 3));
        truthOf("32 alike", Edges.alike(32, -3));
        truthOf("32 rising", Edges.rising(32));
        truthOf("two halves of 16", repeated(32, 1, 2, 3, 4, 5, 6, 7, 8, 9, 10, 11, 12, 13, 14, 15, 16));
        truthOf("a period that does not go into 32", repeated(32, 1, -1, 1));
        truthOf("two periods whose sum less their divisor is the length", repeated(32, 1, 2, 1, 1, 2, 1, 2, 1));
        for (char kind : Edges.KINDS) {
            cases.test("35", "always true: the least number, -1, 0 and the greatest one, of " + kind, () -> {
                Spanjudge x = Edges.withRow(kind, 0, Edges.most(kind), 0, -1, Edges.least(kind));
                cases.is(true, x.rowIsTrue(kind, 's', 0));
                cases.is(true, x.rowIsTrue(kind, 'u', 0));
                x.repeat(kind, 0, 8);
                cases.is(true, x.rowIsTrue(kind, 's', 0));
                cases.is(true, x.rowIsTrue(kind, 'u', 0));
                x.cut(kind, 0, 1, 32);
                cases.is(true, x.rowIsTrue(kind, 's', 0));
                cases.is(true, x.rowIsTrue(kind, 'u', 0));
            });
        }
        cases.test("35", "always true: a short row behind a full one, and a row that was full", () -> {
            Spanjudge x = Edges.withRow('b', 0, Edges.alike(32, 1));
            cases.is(true, x.rowIsTrue('b', 's', 0));
            cases.is(true, x.rowIsTrue('b', 's', 1));
            for (int size = 31; size >= 0; size--) {
                x.cut('b', 0, 0, size);
                cases.is(true, x.rowIsTrue('b', 'u', 0));
            }
        });
    }

    private static void rowIsTrueBehindOthers() {
        for (char kind : Edges.KINDS) {
            cases.test("35", "always true: behind factors() and ending() of another row, or by the other order, of " + kind, () -> {
                Spanjudge x = Edges.withTwo(kind, Edges.falling(32), new long[] {0, -1, Edges.most(kind), Edges.least(kind), 0});
                for (char order : Edges.ORDERS) {
                    cases.is(32, x.factors(kind, order, 0));
                    cases.is(true, x.rowIsTrue(kind, order, 1));
                    cases.is(31, x.ending(kind, order, 0, 0));
                    cases.is(true, x.rowIsTrue(kind, order, 2));
                    cases.is(0, x.factors(kind, order, 3));
                    cases.is(true, x.rowIsTrue(kind, order, 1));
                    cases.is(true, x.rowIsTrue(kind, order == 's' ? 'u' : 's', 1));
                    cases.is(true, x.rowIsTrue(kind, order, 0));
                }
            });
        }
    }

    private static void rowIsTrueRefused() {
        cases.noKind("35", kind -> x -> x.rowIsTrue(kind, 's', 0));
        for (char kind : Edges.KINDS) {
            cases.noOrder("35", order -> x -> x.rowIsTrue(kind, order, 0));
        }
        cases.noRow("35", (kind, row) -> x -> x.rowIsTrue(kind, 's', row));
        cases.noRow("35", (kind, row) -> x -> x.rowIsTrue(kind, 'u', row));
        cases.refused("35", "no such kind or order ahead of no such row", Cases.ARGUMENT, Edges::busy,
                x -> x.rowIsTrue('x', 's', 4), x -> x.rowIsTrue('b', 'x', 4), x -> x.rowIsTrue('b', 'x', -1));
    }
}
