import java.util.ArrayList;
import java.util.List;

/** The boundary cases of promises 14 to 20. */
public final class WordsBoundaryTest {
    private static final int[] ROW_SIZES = {3, 2, 0, 32};

    private static final Cases cases = new Cases("WordsBoundaryTest");

    public static void main(String[] args) {
        asksOfSpansAndRows();
        asks();
        asksRefused();
        asksRows();
        refused();
        refusedRefused();
        common();
        rank();
        rankRefused();
        sort();
        sortedSpans();
        listStays();
        sorted();
        cases.end();
    }

    /** What is due of e, c, u and m, turned about too; asks() by two spans and asksRows() by their rows. */
    private static void asked(String sentence, char kind, long[] one, long[] other, int equal, int compared, int unsigned,
            int mismatch) {
        int[] due = {equal, compared, unsigned, mismatch};
        int[] dueTurned = {equal, -compared, -unsigned, mismatch};
        for (int place = 0; place < 4; place++) {
            char what = Edges.QUESTIONS[place];
            int answer = due[place];
            int turned = dueTurned[place];
            cases.test("14", what + " by " + kind + ": " + sentence, () -> {
                Spanjudge x = Edges.withTwo(kind, one, other);
                cases.is(answer, x.asks(kind, what, 0, 11));
                cases.is("turned about", turned, x.asks(kind, what, 11, 0));
            });
            cases.test("15", what + " by " + kind + ": " + sentence, () -> {
                Spanjudge x = Edges.withTwo(kind, one, other);
                cases.is(answer, x.asksRows(kind, what, 0, 1));
                cases.is("turned about", turned, x.asksRows(kind, what, 1, 0));
            });
        }
    }

    private static long[] withLast(int size, long last) {
        long[] numbers = Edges.rising(size);
        numbers[size - 1] = last;
        return numbers;
    }

    private static void asksOfSpansAndRows() {
        long[] none = {};
        for (char kind : Edges.KINDS) {
            long least = Edges.least(kind);
            long most = Edges.most(kind);
            asked("both without numbers: the same word", kind, none, none, 1, 0, 0, -1);
            asked("one without numbers is the less, by one number", kind, none, new long[] {least}, 0, -1, -1, 0);
            asked("one without numbers is the less, by 32: just -1", kind, none, Edges.rising(32), 0, -1, -1, 0);
            asked("one number, the same", kind, new long[] {most}, new long[] {most}, 1, 0, 0, -1);
            asked("32 numbers, the same: there is no place 32", kind, Edges.rising(32), Edges.rising(32), 1, 0, 0, -1);
            asked("unlike at the first of one number", kind, new long[] {3}, new long[] {4}, 0, -1, -1, 0);
            asked("unlike at the last of 32", kind, Edges.rising(32), withLast(32, 33), 0, -1, -1, 31);
            asked("the shorter one of 31 begins the one of 32", kind, Edges.rising(31), Edges.rising(32), 0, -1, -1, 31);
            asked("the shorter one of 1 begins the one of 32: just -1", kind, Edges.rising(1), Edges.rising(32), 0, -1, -1, 1);
            asked("the first unlike place decides, not a later one", kind, new long[] {1, 5, 9}, new long[] {1, 6, 2}, 0, -1, -1, 1);
            asked("the first unlike place decides, not the length", kind, new long[] {2}, Edges.rising(32), 0, 1, 1, 0);
            asked("the least and the greatest number", kind, new long[] {least}, new long[] {most}, 0, -1, 1, 0);
            asked("-1 and 0", kind, new long[] {-1}, new long[] {0}, 0, -1, 1, 0);
            asked("the least number and 0", kind, new long[] {least}, new long[] {0}, 0, -1, 1, 0);
            asked("-1 and the greatest number", kind, new long[] {-1}, new long[] {most}, 0, -1, 1, 0);
            asked("the least number and -1", kind, new long[] {least}, new long[] {-1}, 0, -1, -1, 0);
            asked("the least number and the next one", kind, new long[] {least}, new long[] {least + 1}, 0, -1, -1, 0);
            asked("0 and the greatest number", kind, new long[] {0}, new long[] {most}, 0, -1, -1, 0);
            asked("signs at the last of 32", kind, withLast(32, -1), withLast(32, 1), 0, -1, 1, 31);
        }
    }

    private static void asks() {
        cases.test("14", "a span beside itself, with numbers and without", () -> {
            Spanjudge x = Edges.busy();
            for (int span = 0; span < 12; span++) {
                if (x.fits('l', span)) {
                    cases.is(1, x.asks('l', 'e', span, span));
                    cases.is(0, x.asks('l', 'c', span, span));
                    cases.is(0, x.asks('l', 'u', span, span));
                    cases.is(-1, x.asks('l', 'm', span, span));
                }
            }
        });
        cases.test("14", "words of the same row, one over the other", () -> {
            Spanjudge x = Edges.withRow('b', 3, Edges.alike(32, 6));
            x.span(1, 3, 0, 31);
            x.span(2, 3, 1, 32);
            x.span(3, 3, 2, 32);
            cases.is(1, x.asks('b', 'e', 1, 2));
            cases.is(30, x.asks('b', 'm', 2, 3));
            cases.is(1, x.asks('b', 'c', 2, 3));
            cases.is(-1, x.asks('b', 'u', 3, 2));
        });
        cases.test("14", "the places of m are those of the words, not those of the rows", () -> {
            Spanjudge x = Edges.withRow('i', 0, 9, 9, 1, 2);
            Due.put(x, 'i', 1, 7, 1, 3);
            x.span(0, 0, 2, 4);
            x.span(1, 1, 1, 3);
            cases.is(1, x.asks('i', 'm', 0, 1));
        });
        cases.test("14", "what stands behind to is not looked at", () -> {
            Spanjudge x = Edges.withRow('s', 0, 1, 2, 3);
            Due.put(x, 's', 1, 1, 2, -3);
            x.span(0, 0, 0, 2);
            x.span(1, 1, 0, 2);
            cases.is(1, x.asks('s', 'e', 0, 1));
            cases.is(0, x.asks('s', 'c', 0, 1));
            cases.is(0, x.asks('s', 'u', 0, 1));
            cases.is(-1, x.asks('s', 'm', 0, 1));
        });
        cases.test("14", "asking changes nothing", () -> {
            Spanjudge x = Edges.busy();
            for (char what : Edges.QUESTIONS) {
                x.asks('l', what, 0, 7);
                x.asksRows('l', what, 0, 3);
                x.refused('l', what, 0, 0, 3);
            }
            cases.is(State.of(Edges.busy()), State.of(x));
        });
    }

    private static void asksRefused() {
        cases.noKind("14", kind -> x -> x.asks(kind, 'e', 0, 1));
        for (char kind : Edges.KINDS) {
            cases.noQuestion("14", what -> x -> x.asks(kind, what, 0, 1));
        }
        for (char what : Edges.QUESTIONS) {
            cases.noSpan("14", (kind, span) -> x -> x.asks(kind, what, span, 0));
            cases.noSpan("14", (kind, span) -> x -> x.asks(kind, what, 0, span));
            for (char kind : Edges.KINDS) {
                cases.refused("14", "throws IllegalStateException if one of them does not fit, of " + kind + what, Cases.STATE,
                        Edges::busy, x -> x.asks(kind, what, 11, 0), x -> x.asks(kind, what, 0, 11), x -> x.asks(kind, what, 6, 9),
                        x -> x.asks(kind, what, 9, 9), x -> x.asks(kind, what, 6, 6), x -> x.asks(kind, what, 5, 6));
            }
        }
        for (char kind : Edges.KINDS) {
            cases.test("14", "throws IllegalStateException if one fits other kinds alone than " + kind, () ->
                cases.refuses(Cases.STATE, () -> {
                    Spanjudge x = Edges.busy();
                    x.cut(kind, 0, 0, 2);
                    return x;
                }, x -> x.asks(kind, 'e', 0, 1), x -> x.asks(kind, 'm', 1, 0)));
        }
        cases.refused("14", "no such kind ahead of no such span and of one that does not fit", Cases.ARGUMENT, Edges::busy,
                x -> x.asks('x', 'e', 12, 0), x -> x.asks('x', 'e', 0, -1), x -> x.asks('x', 'e', 6, 6));
        cases.refused("14", "nothing such ahead of no such span and of one that does not fit", Cases.ARGUMENT, Edges::busy,
                x -> x.asks('b', 'x', 12, 0), x -> x.asks('b', 'x', 0, -1), x -> x.asks('b', 'x', 6, 6), x -> x.asks('b', 'E', 0, 6));
        cases.refused("14", "no such span ahead of one that does not fit", Cases.INDEX, Edges::busy,
                x -> x.asks('b', 'e', 6, 12), x -> x.asks('b', 'c', 12, 6), x -> x.asks('b', 'u', 6, -1), x -> x.asks('b', 'm', -1, 6));
    }

    private static void asksRows() {
        cases.test("15", "a row beside itself, without numbers and full too", () -> Edges.eachRow((kind, row) -> {
            Spanjudge x = Edges.busy();
            cases.is(1, x.asksRows(kind, 'e', row, row));
            cases.is(0, x.asksRows(kind, 'c', row, row));
            cases.is(0, x.asksRows(kind, 'u', row, row));
            cases.is(-1, x.asksRows(kind, 'm', row, row));
        }));
        cases.test("15", "without ranges: spans are not asked", () -> {
            Spanjudge x = Edges.withTwo('b', new long[] {1, 2}, new long[] {1, 2});
            for (int span = 0; span < 12; span++) {
                x.span(span, 0, 31, 32);
            }
            cases.is(1, x.asksRows('b', 'e', 0, 1));
        });
        cases.test("15", "numbers that a row had are none of its any more", () -> {
            Spanjudge x = Edges.withTwo('l', new long[] {1, 2, 3}, new long[] {1, 2, 4});
            x.cut('l', 0, 0, 2);
            x.cut('l', 1, 0, 2);
            cases.is(1, x.asksRows('l', 'e', 0, 1));
            cases.is(-1, x.asksRows('l', 'm', 0, 1));
            x.clear('l', 1);
            cases.is(0, x.asksRows('l', 'm', 0, 1));
            cases.is(1, x.asksRows('l', 'c', 0, 1));
        });
        cases.noKind("15", kind -> x -> x.asksRows(kind, 'e', 0, 1));
        for (char kind : Edges.KINDS) {
            cases.noQuestion("15", what -> x -> x.asksRows(kind, what, 0, 1));
        }
        for (char what : Edges.QUESTIONS) {
            cases.noRow("15", (kind, row) -> x -> x.asksRows(kind, what, row, 0));
            cases.noRow("15", (kind, row) -> x -> x.asksRows(kind, what, 0, row));
        }
        cases.refused("15", "no such kind ahead of no such row", Cases.ARGUMENT, Edges::busy,
                x -> x.asksRows('x', 'e', 4, 0), x -> x.asksRows('x', 'm', 0, -1));
        cases.refused("15", "nothing such ahead of no such row", Cases.ARGUMENT, Edges::busy,
                x -> x.asksRows('b', 'x', 4, 0), x -> x.asksRows('l', 'x', 0, -1));
    }

    private interface Ranges {
        boolean has(int from, int to);
    }

    /** Of each row of the busy object all ranges of these that are near the edges, far out ones too. */
    private static void refusedOf(String sentence, int due, Ranges ranges) {
        int[] far = {Integer.MIN_VALUE, Integer.MIN_VALUE + 1, -99, 99, Integer.MAX_VALUE - 1, Integer.MAX_VALUE};
        for (char kind : Edges.KINDS) {
            for (int row = 0; row < 4; row++) {
                int asked = row;
                int size = ROW_SIZES[row];
                cases.test("16", sentence + ", of " + kind + " with " + size + " numbers", () -> {
                    List<Integer> ends = new ArrayList<>(List.of(-2, -1, 0, 1, size - 1, size, size + 1, size + 2));
                    for (int end : far) {
                        ends.add(end);
                    }
                    int count = 0;
                    for (int from : ends) {
                        Spanjudge x = Edges.busy();
                        for (int to : ends) {
                            if (ranges.has(from, to) && sizedAs(due, from, to, size)) {
                                char what = Edges.QUESTIONS[count % 4];
                                cases.is("from " + from + " to " + to, due, x.refused(kind, what, asked, from, to));
                                count++;
                            }
                        }
                    }
                    cases.is("there are such ranges", true, count > 0);
                });
            }
        }
    }

    /** Whether to stands beside the length as the answer wants it. */
    private static boolean sizedAs(int due, int from, int to, int size) {
        boolean outside = from < 0 || to > size;
        return outside == (due >= 2);
    }

    private static void refused() {
        refusedOf("0 if it answers: from and to are 0 to the length, and from is not above to", 0, (from, to) -> from <= to);
        refusedOf("1 as from is above to alone, even if from is above the length or to below 0", 1, (from, to) -> from > to);
        refusedOf("2 as from is below 0 or to above the length alone, even if from is to", 2, (from, to) -> from <= to);
        refusedOf("3 if both are so", 3, (from, to) -> from > to);
        for (char what : Edges.QUESTIONS) {
            cases.test("16", "each answer, whatever is asked: " + what, () -> {
                for (char kind : Edges.KINDS) {
                    Spanjudge x = Edges.busy();
                    int[][] due = {{0, 3, 0}, {3, 3, 0}, {0, 0, 0}, {0, 4, 2}, {-1, 3, 2}, {4, 4, 2}, {-1, -1, 2}, {3, 2, 1},
                        {4, 3, 1}, {0, -1, 1}, {5, 4, 3}, {-1, -2, 3}, {Integer.MIN_VALUE, Integer.MAX_VALUE, 2},
                        {Integer.MAX_VALUE, Integer.MIN_VALUE, 1}, {Integer.MAX_VALUE, Integer.MAX_VALUE - 1, 3},
                        {Integer.MIN_VALUE + 1, Integer.MIN_VALUE, 3}};
                    for (int[] range : due) {
                        cases.is(range[0] + " to " + range[1], range[2], x.refused(kind, what, 0, range[0], range[1]));
                    }
                }
            });
        }
        cases.test("16", "the length is that of this row of this kind", () -> {
            Spanjudge x = Edges.withRow('i', 2, 1, 2);
            cases.is(0, x.refused('i', 'e', 2, 0, 2));
            cases.is(2, x.refused('i', 'e', 1, 0, 2));
            cases.is(2, x.refused('s', 'e', 2, 0, 2));
            x.append('i', 2, 3);
            cases.is(0, x.refused('i', 'e', 2, 3, 3));
            x.cut('i', 2, 0, 1);
            cases.is(2, x.refused('i', 'e', 2, 0, 2));
        });
    }

    private static void refusedRefused() {
        cases.noKind("16", kind -> x -> x.refused(kind, 'e', 0, 0, 3));
        for (char kind : Edges.KINDS) {
            cases.noQuestion("16", what -> x -> x.refused(kind, what, 0, 0, 3));
        }
        for (char what : Edges.QUESTIONS) {
            cases.noRow("16", (kind, row) -> x -> x.refused(kind, what, row, 0, 0));
        }
        cases.refused("16", "no such kind ahead of no such row", Cases.ARGUMENT, Edges::busy,
                x -> x.refused('x', 'e', 4, 0, 0), x -> x.refused('x', 'e', -1, 1, 0), x -> x.refused('x', 'e', 0, 1, 0));
        cases.refused("16", "nothing such ahead of no such row", Cases.ARGUMENT, Edges::busy,
                x -> x.refused('b', 'x', 4, 0, 0), x -> x.refused('b', 'x', -1, -1, 0), x -> x.refused('b', 'x', 0, -1, 0));
        cases.refused("16", "no such row, and a range that Arrays refuses", Cases.INDEX, Edges::busy,
                x -> x.refused('b', 'e', 4, 1, 0), x -> x.refused('b', 'e', -1, -1, 0));
    }

    private static void commonOf(String sentence, long[] one, long[] other, int due) {
        for (char kind : Edges.KINDS) {
            cases.test("17", sentence + ", by " + kind, () -> {
                Spanjudge x = Edges.withTwo(kind, one, other);
                cases.is(due, x.common(kind, 0, 11));
                cases.is("turned about", due, x.common(kind, 11, 0));
            });
        }
    }

    private static void common() {
        long[] none = {};
        commonOf("none, if both are without numbers", none, none, 0);
        commonOf("none, if one is without numbers", none, Edges.rising(32), 0);
        commonOf("none, if the first ones are unlike, whatever follows", new long[] {1, 5, 6}, new long[] {2, 5, 6}, 0);
        commonOf("one, if it is alike alone", new long[] {1}, new long[] {1}, 1);
        commonOf("the shorter one, if it begins the other", Edges.rising(31), Edges.rising(32), 31);
        commonOf("all 32 of the same word, not -1", Edges.rising(32), Edges.rising(32), 32);
        commonOf("31, if the last ones are unlike", Edges.rising(32), withLast(32, -1), 31);
        commonOf("up to the first unlike place, not those alike behind it", new long[] {1, 2, 3}, new long[] {1, 0, 3}, 1);
        commonOf("-1 is not 1", new long[] {-1, 4}, new long[] {1, 4}, 0);
        cases.test("17", "a span with itself: its length", () -> {
            Spanjudge x = Edges.busy();
            cases.is(32, x.common('s', 7, 7));
            cases.is(0, x.common('s', 5, 5));
        });
        cases.noKind("17", kind -> x -> x.common(kind, 0, 1));
        cases.noSpan("17", (kind, span) -> x -> x.common(kind, span, 0));
        cases.noSpan("17", (kind, span) -> x -> x.common(kind, 0, span));
        for (char kind : Edges.KINDS) {
            cases.refused("17", "throws IllegalStateException if one of them does not fit, of " + kind, Cases.STATE, Edges::busy,
                    x -> x.common(kind, 11, 0), x -> x.common(kind, 0, 11), x -> x.common(kind, 6, 9), x -> x.common(kind, 6, 6));
        }
        cases.refused("17", "no such kind ahead of no such span and of one that does not fit", Cases.ARGUMENT, Edges::busy,
                x -> x.common('x', 12, 0), x -> x.common('x', 0, -1), x -> x.common('x', 6, 6));
        cases.refused("17", "no such span ahead of one that does not fit", Cases.INDEX, Edges::busy,
                x -> x.common('b', 6, 12), x -> x.common('b', 12, 6), x -> x.common('b', -1, 6), x -> x.common('b', 6, -1));
    }

    /** Twelve spans, each of one number of row 2. */
    private static Spanjudge twelve(char kind, long... numbers) {
        Spanjudge x = Edges.withRow(kind, 2, numbers);
        for (int span = 0; span < 12; span++) {
            x.span(span, 2, span, span + 1);
        }
        return x;
    }

    private static void rank() {
        for (char kind : Edges.KINDS) {
            for (char order : Edges.ORDERS) {
                String name = ", by " + order + " of " + kind;
                cases.test("18", "0 for the least of twelve words, 11 for the greatest" + name, () -> {
                    Spanjudge rising = twelve(kind, Edges.rising(12));
                    Spanjudge falling = twelve(kind, Edges.falling(12));
                    for (int span = 0; span < 12; span++) {
                        cases.is(span, rising.rank(kind, order, span));
                        cases.is(11 - span, falling.rank(kind, order, span));
                    }
                });
                cases.test("18", "0 for each of twelve that are the same" + name, () -> {
                    Spanjudge x = twelve(kind, Edges.alike(12, Edges.least(kind)));
                    for (int span = 0; span < 12; span++) {
                        cases.is(0, x.rank(kind, order, span));
                        cases.is(0, new Spanjudge().rank(kind, order, span));
                    }
                });
                cases.test("18", "those that do not fit are not counted, though their words would be less" + name, () -> {
                    Spanjudge x = twelve(kind, Edges.rising(12));
                    x.reverse(kind, 2);
                    x.cut(kind, 2, 0, 1);
                    cases.is(0, x.rank(kind, order, 0));
                    x.span(11, 2, 1, 1);
                    cases.is(1, x.rank(kind, order, 0));
                    cases.is(0, x.rank(kind, order, 11));
                });
                cases.test("18", "words without numbers are less than all others, not than each other" + name, () -> {
                    Spanjudge x = Edges.withRow(kind, 2, order == 's' ? Edges.least(kind) : 0);
                    x.span(0, 2, 0, 1);
                    cases.is(11, x.rank(kind, order, 0));
                    x.span(1, 2, 1, 1);
                    cases.is(11, x.rank(kind, order, 0));
                    cases.is(0, x.rank(kind, order, 1));
                });
            }
            cases.test("18", "s: below 0 ahead of 0; u: behind all others, of " + kind, () -> {
                Spanjudge x = twelve(kind, -1, 0, 1, Edges.most(kind), Edges.least(kind), 5, 5, 5, 5, 5, 5, 5);
                int[] signed = {1, 2, 3, 11, 0, 4};
                int[] unsigned = {11, 0, 1, 9, 10, 2};
                for (int span = 0; span < 6; span++) {
                    cases.is(signed[span], x.rank(kind, 's', span));
                    cases.is(unsigned[span], x.rank(kind, 'u', span));
                }
            });
        }
    }

    private static void rankRefused() {
        cases.noKind("18", kind -> x -> x.rank(kind, 's', 0));
        for (char kind : Edges.KINDS) {
            cases.noOrder("18", order -> x -> x.rank(kind, order, 0));
            cases.refused("18", "throws IllegalStateException if it does not fit, of " + kind, Cases.STATE, Edges::busy,
                    x -> x.rank(kind, 's', 6), x -> x.rank(kind, 'u', 9), x -> x.rank(kind, 's', 11));
        }
        cases.noSpan("18", (kind, span) -> x -> x.rank(kind, 's', span));
        cases.noSpan("18", (kind, span) -> x -> x.rank(kind, 'u', span));
        cases.refused("18", "no such kind ahead of no such span and of one that does not fit", Cases.ARGUMENT, Edges::busy,
                x -> x.rank('x', 's', 12), x -> x.rank('x', 'u', 6), x -> x.rank('x', 's', -1));
        cases.refused("18", "no such order ahead of no such span and of one that does not fit", Cases.ARGUMENT, Edges::busy,
                x -> x.rank('b', 'x', 12), x -> x.rank('b', 'x', 6), x -> x.rank('b', 'S', -1));
    }

    private static List<Integer> spans(int... spans) {
        List<Integer> list = new ArrayList<>();
        for (int span : spans) {
            list.add(span);
        }
        return list;
    }

    private static List<Integer> upTo(int count) {
        List<Integer> list = new ArrayList<>();
        for (int span = 0; span < count; span++) {
            list.add(span);
        }
        return list;
    }

    private static void sort() {
        for (char kind : Edges.KINDS) {
            for (char order : Edges.ORDERS) {
                String name = ", by " + order + " of " + kind;
                cases.test("19", "0 if none fits, and the list is empty then" + name, () -> {
                    Spanjudge x = new Spanjudge();
                    cases.is(12, x.sort(kind, order));
                    for (int span = 0; span < 12; span++) {
                        x.span(span, span % 4, 0, 1);
                    }
                    cases.is(0, x.sort(kind, order));
                    cases.is(spans(), State.list(x));
                });
                cases.test("19", "1 if one fits, the first or the last one" + name, () -> {
                    for (int fitting : new int[] {0, 11}) {
                        Spanjudge x = new Spanjudge();
                        for (int span = 0; span < 12; span++) {
                            x.span(span, 1, 0, span == fitting ? 0 : 1);
                        }
                        cases.is(1, x.sort(kind, order));
                        cases.is(spans(fitting), State.list(x));
                    }
                });
                cases.test("19", "12 if all fit, in the order of their words" + name, () -> {
                    Spanjudge x = twelve(kind, Edges.rising(12));
                    cases.is(12, x.sort(kind, order));
                    cases.is(upTo(12), State.list(x));
                    x.reverse(kind, 2);
                    cases.is(12, x.sort(kind, order));
                    cases.is(spans(11, 10, 9, 8, 7, 6, 5, 4, 3, 2, 1, 0), State.list(x));
                });
                cases.test("19", "those of the same word by their numbers, all twelve or some" + name, () -> {
                    Spanjudge x = twelve(kind, Edges.alike(12, 3));
                    cases.is(12, x.sort(kind, order));
                    cases.is(upTo(12), State.list(x));
                    Spanjudge y = twelve(kind, 2, 1, 2, 1, 2, 1, 2, 1, 2, 1, 2, 1);
                    cases.is(12, y.sort(kind, order));
                    cases.is(spans(1, 3, 5, 7, 9, 11, 0, 2, 4, 6, 8, 10), State.list(y));
                });
            }
        }
    }

    private static void sortedSpans() {
        for (char kind : Edges.KINDS) {
            cases.test("19", "s: below 0 ahead of 0; u: behind all others, of " + kind, () -> {
                Spanjudge x = twelve(kind, -1, 0, 1, Edges.most(kind), Edges.least(kind), 5, 5, 5, 5, 5, 5, 5);
                x.sort(kind, 's');
                cases.is(spans(4, 0, 1, 2, 5, 6, 7, 8, 9, 10, 11, 3), State.list(x));
                x.sort(kind, 'u');
                cases.is(spans(1, 2, 5, 6, 7, 8, 9, 10, 11, 3, 4, 0), State.list(x));
            });
            cases.test("19", "the words without numbers first, and the shorter one ahead of what it begins, of " + kind, () -> {
                Spanjudge x = twelve(kind, Edges.alike(12, 8));
                for (int span = 0; span < 12; span++) {
                    x.span(span, 2, span / 2, 11 - span / 2);
                }
                x.sort(kind, 's');
                cases.is(spans(10, 11, 8, 9, 6, 7, 4, 5, 2, 3, 0, 1), State.list(x));
            });
        }
        cases.noKind("19", kind -> x -> x.sort(kind, 's'));
        for (char kind : Edges.KINDS) {
            cases.noOrder("19", order -> x -> x.sort(kind, order));
        }
        cases.refused("19", "neither a kind nor an order", Cases.ARGUMENT, Edges::busy, x -> x.sort('x', 'x'));
        cases.refused("19", "a refused sort() leaves an empty list too", Cases.ARGUMENT, Spanjudge::new,
                x -> x.sort('x', 's'), x -> x.sort('b', 'x'));
    }

    private static void stays(String what, Cases.Call call) {
        cases.test("19", "the list stays as it is until the next sort(): " + what, () -> {
            Spanjudge x = Edges.busy();
            List<Integer> before = State.list(x);
            cases.is(9, before.size());
            call.on(x);
            cases.is(before, State.list(x));
        });
        cases.test("19", "a list of all twelve stays as it is until the next sort(): " + what, () -> {
            Spanjudge x = Edges.busy();
            for (int span : new int[] {6, 9, 11}) {
                x.span(span, 3, 11 - span, 12);
            }
            cases.is(12, x.sort('i', 'u'));
            List<Integer> before = State.list(x);
            call.on(x);
            cases.is(before, State.list(x));
        });
    }

    private static void listStays() {
        stays("append()", x -> x.append('i', 0, 7));
        stays("set()", x -> x.set('i', 0, 0, 7));
        stays("clear()", x -> x.clear('i', 3));
        stays("repeat()", x -> x.repeat('i', 0, 8));
        stays("reverse()", x -> x.reverse('i', 0));
        stays("cut()", x -> x.cut('i', 3, 1, 1));
        stays("convert()", x -> x.convert('i', 0, 'i', 3, 'n'));
        stays("span()", x -> x.span(0, 3, 32, 32));
        stays("rank()", x -> x.rank('b', 'u', 0));
        stays("share()", x -> x.share('b'));
        stays("ending()", x -> x.ending('b', 'u', 3, 31));
        stays("factors()", x -> x.factors('b', 'u', 3));
        stays("isTrue()", x -> x.isTrue('b', 0, 1, 2));
        stays("rowIsTrue()", x -> x.rowIsTrue('b', 's', 3));
        cases.test("19", "the next sort() makes it anew, by the rows and spans as they are then", () -> {
            Spanjudge x = Edges.busy();
            Edges.eachRow((kind, row) -> x.clear(kind, row));
            cases.is(1, x.sort('i', 's'));
            cases.is(spans(5), State.list(x));
            x.append('i', 1, 3);
            cases.is(2, x.sort('i', 's'));
            cases.is(spans(4, 5), State.list(x));
        });
    }

    private static void sorted() {
        cases.refused("20", "throws IndexOutOfBoundsException if there is no such place: nothing is sorted", Cases.INDEX,
                Spanjudge::new, Edges.each(Edges.intsOutside(0, -1), place -> x -> x.sorted(place)));
        cases.refused("20", "throws IndexOutOfBoundsException if there is no such place: nine are in the list", Cases.INDEX,
                Edges::busy, Edges.each(Edges.intsOutside(0, 8), place -> x -> x.sorted(place)));
        cases.test("20", "throws IndexOutOfBoundsException if there is no such place: twelve are in the list", () ->
            cases.refuses(Cases.INDEX, () -> {
                Spanjudge x = new Spanjudge();
                x.sort('l', 'u');
                return x;
            }, Edges.each(Edges.intsOutside(0, 11), place -> x -> x.sorted(place))));
        cases.test("20", "throws IndexOutOfBoundsException if there is no such place any more: the list is shorter", () -> {
            for (int fitting = 11; fitting >= 0; fitting--) {
                int count = fitting;
                cases.refuses(Cases.INDEX, () -> {
                    Spanjudge x = twelve('s', Edges.rising(12));
                    x.sort('s', 's');
                    x.cut('s', 2, 0, count);
                    x.sort('s', 's');
                    return x;
                }, x -> x.sorted(count), x -> x.sorted(11), x -> x.sorted(-1));
            }
        });
        cases.test("20", "the first and the last place of one, and of twelve", () -> {
            Spanjudge x = twelve('b', Edges.falling(12));
            x.sort('b', 's');
            cases.is(11, x.sorted(0));
            cases.is(0, x.sorted(11));
            x.cut('b', 2, 0, 1);
            x.sort('b', 's');
            cases.is(0, x.sorted(0));
        });
    }
}
