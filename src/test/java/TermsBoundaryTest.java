import java.util.ArrayList;
import java.util.List;
import java.util.TreeSet;

/** The boundary cases of "What it is" and of "Terms". */
public final class TermsBoundaryTest {
    private static final Cases cases = new Cases("TermsBoundaryTest");

    public static void main(String[] args) {
        kinds();
        rows();
        places();
        spans();
        fitting();
        words();
        orders();
        endingsAndLyndonWords();
        refusedCalls();
        firstDocumented();
        callsOfOneObject();
        cases.end();
    }

    private static void kinds() {
        for (char kind : Edges.KINDS) {
            cases.test("Terms", "numbers of " + kind + " are those from its least to its greatest one", () -> {
                for (long number : Edges.numbersOf(kind)) {
                    Spanjudge x = new Spanjudge();
                    cases.is(number + " is taken", 1, x.append(kind, 0, number));
                    cases.is(number + " stands there", number, x.number(kind, 0, 0));
                    x.set(kind, 0, 0, 1);
                    x.set(kind, 0, 0, number);
                    cases.is(number + " stands there once more", number, x.number(kind, 0, 0));
                }
            });
        }
        noNumbers('b', -129, 128);
        noNumbers('s', -32769, 32768);
        noNumbers('i', -2147483649L, 2147483648L);
    }

    private static void noNumbers(char kind, long below, long above) {
        cases.refused("Terms", "the numbers just outside of " + kind, Cases.ARGUMENT, Edges::busy,
                x -> x.append(kind, 0, below), x -> x.append(kind, 0, above),
                x -> x.set(kind, 0, 0, below), x -> x.set(kind, 0, 0, above));
        cases.test("Terms", "the numbers just inside of " + kind, () -> {
            Spanjudge x = Edges.withRow(kind, 0, below + 1, above - 1);
            cases.is(Edges.longs(below + 1, above - 1), State.row(x, kind, 0));
        });
    }

    private static void rows() {
        cases.test("Terms", "of each kind there are the rows 0 to 3, each one by itself", () -> {
            Spanjudge x = new Spanjudge();
            Edges.eachRow((kind, row) -> {
                x.append(kind, row, kind);
                x.append(kind, row, row);
            });
            Edges.eachRow((kind, row) -> cases.is(Edges.longs(kind, row), State.row(x, kind, row)));
        });
        cases.test("Terms", "at most 32 numbers each: all sixteen rows have 32 at once", () -> {
            Spanjudge x = Edges.full();
            Edges.eachRow((kind, row) -> {
                cases.is(32, x.length(kind, row));
                cases.is(-1L, x.number(kind, row, 28));
                cases.is((long) row, x.number(kind, row, 29));
                cases.is((long) kind, x.number(kind, row, 30));
                cases.is(-128L, x.number(kind, row, 31));
            });
        });
        cases.test("Terms", "without numbers at first", () -> {
            Spanjudge x = new Spanjudge();
            Edges.eachRow((kind, row) -> cases.is(0, x.length(kind, row)));
        });
    }

    private static void places() {
        for (int size : new int[] {0, 1, 31, 32}) {
            cases.test("Terms", "a place of a row is from 0 to its length less 1, of " + size + " numbers", () ->
                Edges.eachRow((kind, row) -> {
                    Spanjudge x = Edges.withRow(kind, row, Edges.rising(size));
                    for (int place = 0; place < size; place++) {
                        cases.is(place + 1L, x.number(kind, row, place));
                    }
                    cases.refuses(Cases.INDEX, () -> Edges.withRow(kind, row, Edges.rising(size)),
                            y -> y.number(kind, row, -1), y -> y.number(kind, row, size),
                            y -> y.set(kind, row, -1, 0), y -> y.set(kind, row, size, 0));
                }));
        }
    }

    private static void spans() {
        cases.test("Terms", "there are the spans 0 to 11, each one by itself", () -> {
            Spanjudge x = new Spanjudge();
            for (int span = 0; span < 12; span++) {
                x.span(span, span % 4, span, 32 - span);
            }
            for (int span = 0; span < 12; span++) {
                cases.is(List.of(span % 4, span, 32 - span), State.span(x, span));
            }
        });
        cases.test("Terms", "row 0, 0 and 0 at first", () -> {
            for (int span = 0; span < 12; span++) {
                cases.is(List.of(0, 0, 0), State.span(new Spanjudge(), span));
            }
        });
    }

    private static void fitting() {
        for (int size : new int[] {0, 1, 31, 32}) {
            cases.test("Terms", "a span fits if its to is not above the length, of " + size + " numbers", () ->
                Edges.eachRow((kind, row) -> {
                    Spanjudge x = Edges.withRow(kind, row, Edges.rising(size));
                    for (int to = 0; to <= 32; to++) {
                        x.span(3, row, 0, to);
                        cases.is(kind + " from 0 to " + to, to <= size, x.fits(kind, 3));
                        x.span(3, row, to, to);
                        cases.is(kind + " from " + to + " to " + to, to <= size, x.fits(kind, 3));
                    }
                }));
        }
        cases.test("Terms", "it is the row of this kind that tells whether a span fits", () -> {
            for (char kind : Edges.KINDS) {
                Spanjudge x = Edges.withRow(kind, 2, 5, 6);
                x.span(8, 2, 1, 2);
                for (char asked : Edges.KINDS) {
                    cases.is(asked == kind, x.fits(asked, 8));
                }
            }
        });
    }

    private static void words() {
        cases.test("Terms", "its word has the number at from and not the one at to", () -> {
            for (char kind : Edges.KINDS) {
                Spanjudge x = Edges.withRow(kind, 0, 1, 2, 3, 4);
                Due.put(x, kind, 1, 2, 3);
                x.span(0, 0, 1, 3);
                x.span(1, 1, 0, 2);
                cases.is(1, x.asks(kind, 'e', 0, 1));
            }
        });
        cases.test("Terms", "its word by another kind is that of the row of that kind", () -> {
            Spanjudge x = Edges.withRow('b', 0, 1);
            Due.put(x, 's', 0, 2);
            x.append('b', 1, 1);
            x.append('s', 1, 1);
            x.span(0, 0, 0, 1);
            x.span(1, 1, 0, 1);
            cases.is(1, x.asks('b', 'e', 0, 1));
            cases.is(0, x.asks('s', 'e', 0, 1));
        });
        cases.test("Terms", "its word is without numbers, if from is to, at each place and behind the last one", () -> {
            for (char kind : Edges.KINDS) {
                Spanjudge x = Edges.withRow(kind, 3, Edges.rising(32));
                for (int place = 0; place <= 32; place++) {
                    x.span(1, 3, place, place);
                    cases.is(-1, x.asks(kind, 'm', 0, 1));
                    cases.is(33, x.occurs(kind, 3, 1));
                }
            }
        });
        cases.test("Terms", "a word is as its row is now, not as it was when the span was told", () -> {
            Spanjudge x = Edges.withTwo('i', new long[] {1, 2}, new long[] {1, 2});
            cases.is(1, x.asks('i', 'e', 0, 11));
            x.set('i', 1, 1, 3);
            cases.is(0, x.asks('i', 'e', 0, 11));
            x.set('i', 0, 1, 3);
            cases.is(1, x.asks('i', 'e', 0, 11));
        });
    }

    /** The numbers of a kind that come where an order turns, in that order. */
    private static long[] inOrder(char kind, char order) {
        long least = Edges.least(kind);
        long most = Edges.most(kind);
        return order == 's'
                ? new long[] {least, least + 1, -1, 0, 1, most - 1, most}
                : new long[] {0, 1, most - 1, most, least, least + 1, -1};
    }

    private static void orders() {
        for (char kind : Edges.KINDS) {
            for (char order : Edges.ORDERS) {
                String name = "order " + order + " of " + kind + ": ";
                char what = order == 's' ? 'c' : 'u';
                cases.test("Terms", name + "from the least number over -1 and 0 to the greatest one", () -> {
                    long[] numbers = inOrder(kind, order);
                    for (int one = 0; one < numbers.length; one++) {
                        for (int other = 0; other < numbers.length; other++) {
                            Spanjudge x = Edges.withTwo(kind, new long[] {numbers[one]}, new long[] {numbers[other]});
                            cases.is(numbers[one] + " beside " + numbers[other], Integer.compare(one, other),
                                    x.asks(kind, what, 0, 11));
                        }
                    }
                });
                cases.test("Terms", name + "as endings, factors and rotations have it", () -> {
                    long[] numbers = inOrder(kind, order);
                    for (int place = 0; place + 1 < numbers.length; place++) {
                        Spanjudge x = Edges.withRow(kind, 0, numbers[place], numbers[place + 1]);
                        Due.put(x, kind, 1, numbers[place + 1], numbers[place]);
                        cases.is(0, x.ending(kind, order, 0, 0));
                        cases.is(1, x.ending(kind, order, 1, 0));
                        cases.is(1, x.factors(kind, order, 0));
                        cases.is(2, x.factors(kind, order, 1));
                        cases.is(0, x.rotation(kind, order, 0));
                        cases.is(1, x.rotation(kind, order, 1));
                    }
                });
            }
        }
    }

    private static void endingsAndLyndonWords() {
        cases.test("Terms", "an ending from each place, and no two of them the same", () -> {
            for (char order : Edges.ORDERS) {
                for (int size : new int[] {1, 2, 32}) {
                    Spanjudge x = Edges.withRow('s', 1, Edges.alike(size, -7));
                    TreeSet<Integer> begins = new TreeSet<>();
                    for (int place = 0; place < size; place++) {
                        begins.add(x.ending('s', order, 1, place));
                    }
                    cases.is(size, begins.size());
                    cases.is(0, begins.first());
                    cases.is(size - 1, begins.last());
                }
            }
        });
        cases.test("Terms", "a Lyndon word is of at least one number", () -> {
            cases.is(0, new Spanjudge().factors('l', 's', 0));
            cases.is(1, Edges.withRow('l', 0, 4).factors('l', 's', 0));
        });
        cases.test("Terms", "a Lyndon word is less than each ending of it but the whole, not like it", () -> {
            cases.is(1, Edges.withRow('l', 0, 4, 5).factors('l', 's', 0));
            cases.is(2, Edges.withRow('l', 0, 4, 4).factors('l', 's', 0));
            cases.is(2, Edges.withRow('l', 0, 5, 4).factors('l', 's', 0));
            cases.is(2, Edges.withRow('l', 0, 4, 5, 4).factors('l', 's', 0));
            cases.is(2, Edges.withRow('l', 0, 4, 5, 4, 5).factors('l', 's', 0));
            cases.is(1, Edges.withRow('l', 0, 4, 4, 5).factors('l', 's', 0));
        });
    }

    /** Of each method each exception that it throws. */
    private static List<Cases.Call> refusedBy(Class<? extends RuntimeException> due) {
        List<Cases.Call> calls = new ArrayList<>();
        if (due == Cases.ARGUMENT) {
            calls.addAll(List.of(x -> x.append('x', 0, 1), x -> x.append('b', 0, 128), x -> x.set('x', 0, 0, 1),
                    x -> x.set('s', 0, 0, 32768), x -> x.number('x', 0, 0), x -> x.length('x', 0), x -> x.clear('x', 0),
                    x -> x.repeat('x', 0, 2), x -> x.repeat('b', 0, 9)));
            calls.addAll(List.of(x -> x.reverse('x', 0), x -> x.cut('x', 0, 0, 1), x -> x.convert('x', 0, 'b', 1, 'n'),
                    x -> x.convert('b', 0, 'x', 1, 'n'), x -> x.convert('b', 0, 'b', 1, 'x'), x -> x.span(0, 0, 1, 33)));
            calls.addAll(List.of(x -> x.tells(0, 'x'), x -> x.fits('x', 0), x -> x.asks('x', 'e', 0, 0),
                    x -> x.asks('b', 'x', 0, 0), x -> x.asksRows('x', 'e', 0, 0), x -> x.asksRows('b', 'x', 0, 0)));
            calls.addAll(List.of(x -> x.refused('x', 'e', 0, 0, 0), x -> x.refused('b', 'x', 0, 0, 0),
                    x -> x.common('x', 0, 0), x -> x.rank('x', 's', 0), x -> x.rank('b', 'x', 0), x -> x.sort('x', 's'),
                    x -> x.sort('b', 'x')));
            calls.addAll(List.of(x -> x.ending('x', 's', 0, 0), x -> x.ending('b', 'x', 0, 0), x -> x.distinct('x', 0),
                    x -> x.longest('x', 0), x -> x.occurs('x', 0, 0), x -> x.isPeriod('x', 0, 1), x -> x.period('x', 0)));
            calls.addAll(List.of(x -> x.root('x', 0), x -> x.rotation('x', 's', 0), x -> x.rotation('b', 'x', 0),
                    x -> x.factors('x', 's', 0), x -> x.factors('b', 'x', 0), x -> x.factor('x', 's', 0, 0),
                    x -> x.factor('b', 'x', 0, 0)));
            calls.addAll(List.of(x -> x.share('x'), x -> x.mean('x'), x -> x.isTrue('x', 0, 0, 0),
                    x -> x.rowIsTrue('x', 's', 0), x -> x.rowIsTrue('b', 'x', 0)));
        } else if (due == Cases.INDEX) {
            calls.addAll(List.of(x -> x.append('b', 4, 1), x -> x.set('b', 4, 0, 1), x -> x.set('b', 0, 3, 1),
                    x -> x.number('b', 4, 0), x -> x.number('b', 0, 3), x -> x.length('b', 4), x -> x.clear('b', 4)));
            calls.addAll(List.of(x -> x.repeat('b', 4, 2), x -> x.reverse('b', 4), x -> x.cut('b', 4, 0, 1),
                    x -> x.cut('b', 0, 0, 4), x -> x.convert('b', 4, 'b', 1, 'n'), x -> x.convert('b', 0, 'b', 4, 'n')));
            calls.addAll(List.of(x -> x.span(12, 0, 0, 1), x -> x.span(0, 4, 0, 1), x -> x.tells(12, 'r'),
                    x -> x.fits('b', 12), x -> x.asks('b', 'e', 12, 0), x -> x.asks('b', 'e', 0, 12)));
            calls.addAll(List.of(x -> x.asksRows('b', 'e', 4, 0), x -> x.asksRows('b', 'e', 0, 4),
                    x -> x.refused('b', 'e', 4, 0, 0), x -> x.common('b', 12, 0), x -> x.common('b', 0, 12)));
            calls.addAll(List.of(x -> x.rank('b', 's', 12), x -> x.sorted(-1), x -> x.sorted(9), x -> x.sorted(12),
                    x -> x.ending('b', 's', 4, 0), x -> x.ending('b', 's', 0, 3), x -> x.distinct('b', 4)));
            calls.addAll(List.of(x -> x.longest('b', 4), x -> x.occurs('b', 4, 0), x -> x.occurs('b', 0, 12),
                    x -> x.isPeriod('b', 4, 1), x -> x.isPeriod('b', 0, 4), x -> x.period('b', 4), x -> x.root('b', 4)));
            calls.addAll(List.of(x -> x.rotation('b', 's', 4), x -> x.factors('b', 's', 4), x -> x.factor('b', 's', 4, 0),
                    x -> x.factor('b', 's', 0, 3), x -> x.isTrue('b', 12, 0, 0), x -> x.isTrue('b', 0, 12, 0),
                    x -> x.isTrue('b', 0, 0, 12), x -> x.rowIsTrue('b', 's', 4)));
        } else {
            calls.addAll(List.of(x -> x.append('b', 3, 1), x -> x.repeat('b', 3, 2), x -> x.convert('b', 0, 'b', 1, 'u'),
                    x -> x.asks('b', 'e', 6, 0), x -> x.asks('b', 'e', 0, 6), x -> x.common('b', 6, 0)));
            calls.addAll(List.of(x -> x.common('b', 0, 6), x -> x.rank('b', 's', 6), x -> x.occurs('b', 0, 6),
                    x -> x.isTrue('b', 6, 0, 0), x -> x.isTrue('b', 0, 6, 0), x -> x.isTrue('b', 0, 0, 6)));
        }
        return calls;
    }

    private static void refusedCalls() {
        for (Class<? extends RuntimeException> due : List.of(Cases.ARGUMENT, Cases.INDEX, Cases.STATE)) {
            for (Cases.Call call : refusedBy(due)) {
                cases.refused("Terms", "a method that throws " + due.getSimpleName() + " changes nothing", due, Edges::busy, call);
            }
            cases.refused("Terms", "all that throw " + due.getSimpleName() + " change nothing", due, Edges::busy,
                    refusedBy(due));
        }
        cases.test("Terms", "share() that throws changes nothing", () -> cases.refuses(Cases.STATE, () -> {
            Spanjudge x = Edges.busy();
            for (int span = 1; span < 12; span++) {
                x.span(span, 2, 0, 1);
            }
            return x;
        }, x -> x.share('b')));
    }

    /** Each promise has more of these, by its own exceptions. */
    private static void firstDocumented() {
        cases.refused("Terms", "of several exceptions the first documented one: the argument ahead of the index",
                Cases.ARGUMENT, Edges::busy,
                x -> x.append('x', 4, 1), x -> x.set('x', 4, 9, 1), x -> x.number('x', 4, 9), x -> x.length('x', 4),
                x -> x.convert('b', 4, 'b', 4, 'x'), x -> x.fits('x', 12), x -> x.rank('b', 'x', 12));
        cases.refused("Terms", "of several exceptions the first documented one: the index ahead of the argument",
                Cases.INDEX, Edges::busy, x -> x.span(12, 0, 1, 0), x -> x.span(0, 4, 1, 0), x -> x.tells(12, 'x'));
        cases.refused("Terms", "of several exceptions the first documented one: the argument ahead of the state",
                Cases.ARGUMENT, Edges::busy, x -> x.append('b', 3, 128), x -> x.repeat('b', 3, 9),
                x -> x.asks('b', 'x', 6, 6), x -> x.rank('b', 'x', 6), x -> x.convert('b', 0, 'b', 1, 'x'));
        cases.refused("Terms", "of several exceptions the first documented one: the index ahead of the state",
                Cases.INDEX, Edges::busy, x -> x.asks('b', 'e', 6, 12), x -> x.common('b', 12, 6),
                x -> x.isTrue('b', 6, 6, 12), x -> x.occurs('b', 4, 6), x -> x.convert('b', 0, 'b', 4, 'u'));
    }

    private static void callsOfOneObject() {
        cases.test("What it is", "the 512th call of an object answers as the first one does", () -> {
            Spanjudge x = Edges.withRow('l', 3, 9, 8);
            for (int call = 4; call <= 511; call++) {
                cases.is(2, x.length('l', 3));
            }
            cases.is(8L, x.number('l', 3, 1));
        });
        cases.test("What it is", "512 calls that change rows, spans and the list", () -> {
            Spanjudge x = new Spanjudge();
            for (int round = 0; round < 102; round++) {
                cases.is(1, x.append('i', 1, round));
                cases.is(1, x.span(5, 1, 0, 1));
                cases.is(12, x.sort('i', 's'));
                cases.is(5, x.sorted(11));
                cases.is(1, x.clear('i', 1));
            }
            cases.is(1, x.append('i', 1, 7));
            cases.is(true, x.fits('i', 5));
        });
    }
}
