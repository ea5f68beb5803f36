/** The boundary cases of promises 21 to 24. */
public final class EndingsBoundaryTest {
    private static final int[] SIZES = {0, 1, 2, 31, 32};

    private static final Cases cases = new Cases("EndingsBoundaryTest");

    public static void main(String[] args) {
        ending();
        endingByOrder();
        endingRefused();
        distinct();
        longest();
        occurs();
        occursOfPart();
        occursRefused();
        cases.end();
    }

    private static void ending() {
        for (int size : SIZES) {
            for (char order : Edges.ORDERS) {
                String name = ", of " + size + " numbers by " + order;
                cases.test("21", "all alike: the shorter an ending, the less" + name, () -> Edges.eachRow((kind, row) -> {
                    Spanjudge x = Edges.withRow(kind, row, Edges.alike(size, Edges.least(kind)));
                    for (int place = 0; place < size; place++) {
                        cases.is(size - 1 - place, x.ending(kind, order, row, place));
                    }
                }));
                cases.test("21", "rising and falling: from the first place to the length less 1" + name, () ->
                    Edges.eachRow((kind, row) -> {
                        Spanjudge x = Edges.withRow(kind, row, Edges.rising(size));
                        for (int place = 0; place < size; place++) {
                            cases.is(place, x.ending(kind, order, row, place));
                        }
                        x.reverse(kind, row);
                        for (int place = 0; place < size; place++) {
                            cases.is(size - 1 - place, x.ending(kind, order, row, place));
                        }
                    }));
                cases.test("21", "throws IndexOutOfBoundsException if there is no such place" + name, () ->
                    Edges.eachRow((kind, row) -> cases.refuses(Cases.INDEX, () -> Edges.withRow(kind, row, Edges.rising(size)),
                            Edges.each(Edges.intsOutside(0, size - 1), place -> x -> x.ending(kind, order, row, place)))));
            }
        }
        cases.test("21", "a row that was longer, and one asked behind a longer one", () -> {
            Spanjudge x = Edges.withRow('b', 0, Edges.alike(32, 1));
            cases.is(31, x.ending('b', 's', 0, 0));
            x.cut('b', 0, 0, 2);
            cases.is(1, x.ending('b', 's', 0, 0));
            cases.is(0, x.ending('b', 's', 0, 1));
        });
    }

    private static void endingByOrder() {
        for (char kind : Edges.KINDS) {
            cases.test("21", "s by compare(), u by compareUnsigned(), of " + kind, () -> {
                Spanjudge x = Edges.withRow(kind, 1, -1, 0, Edges.most(kind), Edges.least(kind));
                int[] signed = {3, 0, 1, 2};
                int[] unsigned = {1, 2, 3, 0};
                for (int place = 0; place < 4; place++) {
                    cases.is(signed[place], x.ending(kind, 's', 1, place));
                    cases.is(unsigned[place], x.ending(kind, 'u', 1, place));
                }
            });
        }
    }

    private static void endingRefused() {
        cases.noKind("21", kind -> x -> x.ending(kind, 's', 0, 0));
        for (char kind : Edges.KINDS) {
            cases.noOrder("21", order -> x -> x.ending(kind, order, 0, 0));
        }
        cases.noRow("21", (kind, row) -> x -> x.ending(kind, 's', row, 0));
        cases.noRow("21", (kind, row) -> x -> x.ending(kind, 'u', row, 0));
        cases.refused("21", "no such kind or order ahead of no such row or place", Cases.ARGUMENT, Edges::busy,
                x -> x.ending('x', 's', 4, 0), x -> x.ending('b', 'x', 4, 0), x -> x.ending('x', 'u', 0, 3),
                x -> x.ending('b', 'x', 0, -1), x -> x.ending('x', 'x', -1, -1), x -> x.ending('b', 'x', 2, 0));
    }

    private static void distinct() {
        for (int size : SIZES) {
            cases.test("22", "of " + size + " unlike numbers: all words", () -> Edges.eachRow((kind, row) ->
                    cases.is(size * (size + 1) / 2, Edges.withRow(kind, row, Edges.rising(size)).distinct(kind, row))));
            cases.test("22", "of " + size + " numbers alike: one of each length, none without numbers", () ->
                Edges.eachRow((kind, row) ->
                    cases.is(size, Edges.withRow(kind, row, Edges.alike(size, Edges.most(kind))).distinct(kind, row))));
        }
        cases.test("22", "numbers are unlike if their signs are alone", () -> {
            for (char kind : Edges.KINDS) {
                cases.is(3, Edges.withRow(kind, 0, 1, -1).distinct(kind, 0));
                cases.is(3, Edges.withRow(kind, 0, Edges.least(kind), 0).distinct(kind, 0));
                cases.is(5, Edges.withRow(kind, 0, Edges.most(kind), Edges.least(kind), Edges.most(kind)).distinct(kind, 0));
            }
        });
        cases.test("22", "31 numbers alike and another one: behind them, ahead of them", () -> {
            long[] numbers = Edges.alike(32, 4);
            numbers[31] = 5;
            cases.is(63, Edges.withRow('s', 1, numbers).distinct('s', 1));
            Spanjudge x = Edges.withRow('s', 1, numbers);
            x.reverse('s', 1);
            cases.is(63, x.distinct('s', 1));
        });
        cases.test("22", "a row that was longer, and one asked behind a longer one", () -> {
            Spanjudge x = Edges.withRow('i', 3, Edges.alike(32, 4));
            cases.is(32, x.distinct('i', 3));
            x.cut('i', 3, 0, 1);
            cases.is(1, x.distinct('i', 3));
            x.clear('i', 3);
            cases.is(0, x.distinct('i', 3));
        });
        cases.noKind("22", kind -> x -> x.distinct(kind, 0));
        cases.noRow("22", (kind, row) -> x -> x.distinct(kind, row));
        cases.refused("22", "no such kind ahead of no such row", Cases.ARGUMENT, Edges::busy,
                x -> x.distinct('x', 4), x -> x.distinct('x', -1));
    }

    private static void longest() {
        for (int size : SIZES) {
            cases.test("23", "0 if no number stands there twice, of " + size + " numbers", () -> Edges.eachRow((kind, row) ->
                    cases.is(0, Edges.withRow(kind, row, Edges.rising(size)).longest(kind, row))));
            cases.test("23", "of " + size + " numbers alike: all but one, as the places may lie over each other", () ->
                Edges.eachRow((kind, row) -> cases.is(size == 0 ? 0 : size - 1,
                        Edges.withRow(kind, row, Edges.alike(size, -1)).longest(kind, row))));
        }
        cases.test("23", "1 if the first one stands at the last place again", () -> {
            long[] numbers = Edges.rising(32);
            numbers[31] = 1;
            Edges.eachRow((kind, row) -> cases.is(1, Edges.withRow(kind, row, numbers).longest(kind, row)));
        });
        cases.test("23", "the two halves of a full row", () -> {
            Spanjudge x = Edges.withRow('l', 2, Edges.rising(16));
            x.repeat('l', 2, 2);
            cases.is(16, x.longest('l', 2));
        });
        cases.test("23", "numbers are unlike if their signs are alone", () -> {
            for (char kind : Edges.KINDS) {
                cases.is(0, Edges.withRow(kind, 0, 1, -1).longest(kind, 0));
                cases.is(0, Edges.withRow(kind, 0, Edges.least(kind), 0, Edges.most(kind)).longest(kind, 0));
            }
        });
        cases.test("23", "a row that was longer, and one asked behind a longer one", () -> {
            Spanjudge x = Edges.withRow('i', 3, Edges.alike(32, 4));
            cases.is(31, x.longest('i', 3));
            x.cut('i', 3, 0, 2);
            cases.is(1, x.longest('i', 3));
            x.cut('i', 3, 0, 1);
            cases.is(0, x.longest('i', 3));
        });
        cases.noKind("23", kind -> x -> x.longest(kind, 0));
        cases.noRow("23", (kind, row) -> x -> x.longest(kind, row));
        cases.refused("23", "no such kind ahead of no such row", Cases.ARGUMENT, Edges::busy,
                x -> x.longest('x', 4), x -> x.longest('x', -1));
    }

    private static void occurs() {
        for (int size : SIZES) {
            cases.test("24", "for a word without numbers the length and 1, of " + size + " numbers", () ->
                Edges.eachRow((kind, row) -> {
                    Spanjudge x = Edges.withRow(kind, row, Edges.rising(size));
                    cases.is(size + 1, x.occurs(kind, row, 0));
                    x.span(11, row, size, size);
                    cases.is(size + 1, x.occurs(kind, row, 11));
                }));
            cases.test("24", "all alike: each place up to the length less that of the word, of " + size + " numbers", () ->
                Edges.eachRow((kind, row) -> {
                    Spanjudge x = Edges.withRow(kind, row, Edges.alike(size, 2));
                    for (int length = 1; length <= size; length++) {
                        x.span(5, row, 0, length);
                        cases.is(size - length + 1, x.occurs(kind, row, 5));
                    }
                }));
            cases.test("24", "0 if the word is longer by one, and 1 if it is the whole row, of " + size + " numbers", () -> {
                for (char kind : Edges.KINDS) {
                    if (size > 0) {
                        Spanjudge x = Edges.withTwo(kind, Edges.rising(size - 1), Edges.rising(size));
                        cases.is(0, x.occurs(kind, 0, 11));
                        cases.is(1, x.occurs(kind, 1, 11));
                    }
                }
            });
        }
    }

    private static void occursOfPart() {
        for (char kind : Edges.KINDS) {
            cases.test("24", "at the first and at the last place alone, of " + kind, () -> {
                long[] numbers = Edges.alike(32, 1);
                numbers[0] = 7;
                numbers[31] = 9;
                Spanjudge x = Edges.withTwo(kind, numbers, new long[] {7, 1, 1, 9});
                x.span(1, 1, 0, 2);
                x.span(2, 1, 2, 4);
                x.span(3, 1, 0, 4);
                cases.is(1, x.occurs(kind, 0, 1));
                cases.is(1, x.occurs(kind, 0, 2));
                cases.is(0, x.occurs(kind, 0, 3));
            });
            cases.test("24", "a word longer than a row that has none, or one number, of " + kind, () -> {
                Spanjudge x = Edges.withTwo(kind, Edges.rising(32), new long[] {1});
                cases.is(0, x.occurs(kind, 1, 0));
                cases.is(0, x.occurs(kind, 2, 0));
                cases.is(0, x.occurs(kind, 2, 11));
                cases.is(1, x.occurs(kind, 1, 11));
            });
            cases.test("24", "a word that begins at the end of the row and would go on behind it, of " + kind, () -> {
                Spanjudge x = Edges.withRow(kind, 0, 5, 1, 2, 3);
                Due.put(x, kind, 1, 2, 3);
                x.cut(kind, 0, 0, 3);
                x.span(4, 1, 0, 2);
                cases.is(0, x.occurs(kind, 0, 4));
            });
        }
    }

    private static void occursRefused() {
        cases.noKind("24", kind -> x -> x.occurs(kind, 0, 0));
        cases.noRow("24", (kind, row) -> x -> x.occurs(kind, row, 0));
        cases.noSpan("24", (kind, span) -> x -> x.occurs(kind, 0, span));
        for (char kind : Edges.KINDS) {
            cases.refused("24", "throws IllegalStateException if it does not fit, even if it would be longer, of " + kind, Cases.STATE,
                    Edges::busy, x -> x.occurs(kind, 0, 6), x -> x.occurs(kind, 2, 9), x -> x.occurs(kind, 3, 11),
                    x -> x.occurs(kind, 2, 11));
        }
        cases.test("24", "throws IllegalStateException if it is without numbers behind the end", () ->
            cases.refuses(Cases.STATE, () -> {
                Spanjudge x = Edges.busy();
                x.span(0, 0, 4, 4);
                return x;
            }, x -> x.occurs('b', 0, 0), x -> x.occurs('l', 3, 0)));
        cases.refused("24", "no such kind ahead of no such row or span and of one that does not fit", Cases.ARGUMENT, Edges::busy,
                x -> x.occurs('x', 4, 0), x -> x.occurs('x', 0, 12), x -> x.occurs('x', 0, 6), x -> x.occurs('x', -1, -1));
        cases.refused("24", "no such row or span ahead of one that does not fit", Cases.INDEX, Edges::busy,
                x -> x.occurs('b', 4, 6), x -> x.occurs('b', -1, 11), x -> x.occurs('b', 4, 12), x -> x.occurs('l', -1, -1));
    }
}
