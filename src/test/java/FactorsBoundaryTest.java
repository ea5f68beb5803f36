/** The boundary cases of promises 25 to 30. */
public final class FactorsBoundaryTest {
    private static final int[] SIZES = {0, 1, 2, 31, 32};

    private static final Cases cases = new Cases("FactorsBoundaryTest");

    public static void main(String[] args) {
        isPeriod();
        isPeriodRefused();
        period();
        root();
        rotation();
        rotationByOrder();
        factors();
        factorsByOrder();
        factor();
        factorRefused();
        cases.end();
    }

    /** Rising but for the last number, which is the first one again. */
    private static long[] roundTo(int size) {
        long[] numbers = Edges.rising(size);
        numbers[size - 1] = 1;
        return numbers;
    }

    private static void isPeriod() {
        for (int size : SIZES) {
            cases.test("25", "all alike: each of 1 to the length, of " + size + " numbers", () -> Edges.eachRow((kind, row) -> {
                Spanjudge x = Edges.withRow(kind, row, Edges.alike(size, Edges.least(kind)));
                for (int period = 1; period <= size; period++) {
                    cases.is(true, x.isPeriod(kind, row, period));
                }
            }));
            cases.test("25", "all unlike: the length alone, as no number has one ahead then, of " + size + " numbers", () ->
                Edges.eachRow((kind, row) -> {
                    Spanjudge x = Edges.withRow(kind, row, Edges.rising(size));
                    for (int period = 1; period <= size; period++) {
                        cases.is(period == size, x.isPeriod(kind, row, period));
                    }
                }));
        }
        cases.test("25", "the length less 1, if the last number is like the first one alone", () -> {
            for (int size : new int[] {3, 31, 32}) {
                Edges.eachRow((kind, row) -> {
                    Spanjudge x = Edges.withRow(kind, row, roundTo(size));
                    for (int period = 1; period <= size; period++) {
                        cases.is(period >= size - 1, x.isPeriod(kind, row, period));
                    }
                });
            }
        });
        cases.test("25", "not if the first number, or the last one, is the unlike one", () -> {
            long[] numbers = Edges.alike(32, 3);
            numbers[0] = -3;
            for (boolean turned : new boolean[] {false, true}) {
                Spanjudge x = Edges.withRow('s', 1, numbers);
                if (turned) {
                    x.reverse('s', 1);
                }
                for (int period = 1; period <= 32; period++) {
                    cases.is(period == 32, x.isPeriod('s', 1, period));
                }
            }
        });
    }

    private static void isPeriodRefused() {
        cases.noKind("25", kind -> x -> x.isPeriod(kind, 0, 1));
        cases.noRow("25", (kind, row) -> x -> x.isPeriod(kind, row, 1));
        for (int size : SIZES) {
            cases.test("25", "throws IndexOutOfBoundsException if the period is out of range, 1 to the length, of " + size
                    + " numbers", () -> Edges.eachRow((kind, row) -> cases.refuses(Cases.INDEX,
                            () -> Edges.withRow(kind, row, Edges.alike(size, 1)),
                            Edges.each(Edges.intsOutside(1, size), period -> x -> x.isPeriod(kind, row, period)))));
        }
        cases.refused("25", "no such kind ahead of no such row and of a period out of range", Cases.ARGUMENT, Edges::busy,
                x -> x.isPeriod('x', 4, 1), x -> x.isPeriod('x', 0, 0), x -> x.isPeriod('x', 0, 4), x -> x.isPeriod('x', -1, -1));
        cases.refused("25", "no such row, and a period out of range", Cases.INDEX, Edges::busy,
                x -> x.isPeriod('b', 4, 0), x -> x.isPeriod('b', -1, 33));
    }

    private static void period() {
        cases.test("26", "0 for a row without numbers", () -> Edges.eachRow((kind, row) -> {
            cases.is(0, new Spanjudge().period(kind, row));
            Spanjudge x = Edges.busy();
            x.clear(kind, row);
            cases.is(0, x.period(kind, row));
        }));
        for (int size : new int[] {1, 2, 31, 32}) {
            cases.test("26", "1 for all alike, the length for all unlike, of " + size + " numbers", () -> Edges.eachRow((kind, row) -> {
                cases.is(1, Edges.withRow(kind, row, Edges.alike(size, Edges.most(kind))).period(kind, row));
                cases.is(size, Edges.withRow(kind, row, Edges.rising(size)).period(kind, row));
            }));
        }
        cases.test("26", "the length less 1, if the last number is like the first one alone", () -> Edges.eachRow((kind, row) ->
                cases.is(31, Edges.withRow(kind, row, roundTo(32)).period(kind, row))));
        cases.test("26", "the least of some; it need not go into the length", () -> {
            Spanjudge x = Edges.withRow('b', 0, 1, 2, 3);
            x.repeat('b', 0, 8);
            cases.is(3, x.period('b', 0));
            x.cut('b', 0, 0, 23);
            cases.is(3, x.period('b', 0));
            x.cut('b', 0, 0, 4);
            cases.is(3, x.period('b', 0));
            x.cut('b', 0, 0, 3);
            cases.is(3, x.period('b', 0));
        });
        cases.test("26", "numbers whose signs alone are unlike are unlike", () -> {
            for (char kind : Edges.KINDS) {
                cases.is(2, Edges.withRow(kind, 0, 1, -1).period(kind, 0));
                cases.is(2, Edges.withRow(kind, 0, Edges.least(kind), 0, Edges.least(kind)).period(kind, 0));
            }
        });
        cases.noKind("26", kind -> x -> x.period(kind, 0));
        cases.noRow("26", (kind, row) -> x -> x.period(kind, row));
        cases.refused("26", "no such kind ahead of no such row", Cases.ARGUMENT, Edges::busy,
                x -> x.period('x', 4), x -> x.period('x', -1));
    }

    private static void root() {
        cases.test("27", "0 for a row without numbers", () -> Edges.eachRow((kind, row) -> {
            cases.is(0, new Spanjudge().root(kind, row));
            Spanjudge x = Edges.busy();
            x.clear(kind, row);
            cases.is(0, x.root(kind, row));
        }));
        for (int size : new int[] {1, 2, 31, 32}) {
            cases.test("27", "1 for all alike, the whole length for all unlike, of " + size + " numbers", () ->
                Edges.eachRow((kind, row) -> {
                    cases.is(1, Edges.withRow(kind, row, Edges.alike(size, -1)).root(kind, row));
                    cases.is(size, Edges.withRow(kind, row, Edges.rising(size)).root(kind, row));
                }));
        }
        for (int times = 1; times <= 8; times++) {
            int asked = times;
            cases.test("27", "the shortest word that, " + times + " times, is the row", () -> {
                for (int size = 1; size * asked <= 32; size++) {
                    Spanjudge x = Edges.withRow('i', 3, Edges.rising(size));
                    x.repeat('i', 3, asked);
                    cases.is(size, x.root('i', 3));
                }
            });
        }
        cases.test("27", "the whole length, if the period does not go into it", () -> {
            Spanjudge x = Edges.withRow('b', 0, 1, 2);
            x.repeat('b', 0, 8);
            x.cut('b', 0, 0, 15);
            cases.is(2, x.period('b', 0));
            cases.is(15, x.root('b', 0));
            cases.is(31, Edges.withRow('l', 2, roundTo(32)).period('l', 2));
            cases.is(32, Edges.withRow('l', 2, roundTo(32)).root('l', 2));
        });
        cases.test("27", "not a length that goes into that of the row, if the last number is unlike", () -> {
            Spanjudge x = Edges.withRow('s', 0, Edges.rising(16));
            x.repeat('s', 0, 2);
            cases.is(16, x.root('s', 0));
            x.set('s', 0, 31, 99);
            cases.is(32, x.root('s', 0));
        });
        cases.noKind("27", kind -> x -> x.root(kind, 0));
        cases.noRow("27", (kind, row) -> x -> x.root(kind, row));
        cases.refused("27", "no such kind ahead of no such row", Cases.ARGUMENT, Edges::busy,
                x -> x.root('x', 4), x -> x.root('x', -1));
    }

    private static void rotation() {
        for (char order : Edges.ORDERS) {
            cases.test("28", "-1 for a row without numbers, by " + order, () -> Edges.eachRow((kind, row) -> {
                cases.is(-1, new Spanjudge().rotation(kind, order, row));
                Spanjudge x = Edges.busy();
                x.clear(kind, row);
                cases.is(-1, x.rotation(kind, order, row));
            }));
            for (int size : new int[] {1, 2, 31, 32}) {
                String name = ", of " + size + " numbers by " + order;
                cases.test("28", "all alike: the least place" + name, () -> Edges.eachRow((kind, row) ->
                        cases.is(0, Edges.withRow(kind, row, Edges.alike(size, -1)).rotation(kind, order, row))));
                cases.test("28", "rising: the first place; falling: the last one" + name, () -> Edges.eachRow((kind, row) -> {
                    cases.is(0, Edges.withRow(kind, row, Edges.rising(size)).rotation(kind, order, row));
                    cases.is(size - 1, Edges.withRow(kind, row, Edges.falling(size)).rotation(kind, order, row));
                }));
            }
            cases.test("28", "the least place of those that are the least word, by " + order, () -> {
                Spanjudge x = Edges.withRow('l', 1, 2, 1, 2, 2);
                x.repeat('l', 1, 8);
                cases.is(1, x.rotation('l', order, 1));
            });
            cases.test("28", "those ahead of the place come behind the end, by " + order, () -> {
                cases.is(2, Edges.withRow('i', 0, 1, 2, 1).rotation('i', order, 0));
                cases.is(3, Edges.withRow('i', 0, 1, 1, 2, 1).rotation('i', order, 0));
                cases.is(0, Edges.withRow('i', 0, 1, 1, 2).rotation('i', order, 0));
                long[] numbers = Edges.alike(32, 1);
                numbers[30] = 2;
                cases.is(31, Edges.withRow('b', 2, numbers).rotation('b', order, 2));
                numbers[31] = 2;
                numbers[30] = 1;
                cases.is(0, Edges.withRow('b', 2, numbers).rotation('b', order, 2));
            });
        }
    }

    private static void rotationByOrder() {
        for (char kind : Edges.KINDS) {
            cases.test("28", "s by compare(), u by compareUnsigned(), of " + kind, () -> {
                Spanjudge x = Edges.withRow(kind, 1, -1, 0, Edges.most(kind), Edges.least(kind));
                cases.is(3, x.rotation(kind, 's', 1));
                cases.is(1, x.rotation(kind, 'u', 1));
            });
            cases.noOrder("28", order -> x -> x.rotation(kind, order, 0));
            cases.noOrder("28", order -> x -> x.rotation(kind, order, 2));
        }
        cases.noKind("28", kind -> x -> x.rotation(kind, 's', 0));
        cases.noRow("28", (kind, row) -> x -> x.rotation(kind, 's', row));
        cases.noRow("28", (kind, row) -> x -> x.rotation(kind, 'u', row));
        cases.refused("28", "no such kind or order ahead of no such row, and of a row without numbers", Cases.ARGUMENT, Edges::busy,
                x -> x.rotation('x', 's', 4), x -> x.rotation('b', 'x', -1), x -> x.rotation('b', 'x', 2), x -> x.rotation('x', 'u', 2));
    }

    private static void factors() {
        for (char order : Edges.ORDERS) {
            cases.test("29", "0 for a row without numbers, by " + order, () -> Edges.eachRow((kind, row) -> {
                cases.is(0, new Spanjudge().factors(kind, order, row));
                Spanjudge x = Edges.busy();
                x.clear(kind, row);
                cases.is(0, x.factors(kind, order, row));
            }));
            for (int size : new int[] {1, 2, 31, 32}) {
                cases.test("29", "as many as numbers, if all are alike or falling; one, if rising: of " + size + " by " + order, () ->
                    Edges.eachRow((kind, row) -> {
                        cases.is(size, Edges.withRow(kind, row, Edges.alike(size, -1)).factors(kind, order, row));
                        cases.is(size, Edges.withRow(kind, row, Edges.falling(size)).factors(kind, order, row));
                        cases.is(1, Edges.withRow(kind, row, Edges.rising(size)).factors(kind, order, row));
                    }));
            }
            cases.test("29", "none less than the next one: the same Lyndon word eight times, by " + order, () -> {
                Spanjudge x = Edges.withRow('s', 0, 1, 1, 2, 3);
                cases.is(1, x.factors('s', order, 0));
                x.repeat('s', 0, 8);
                cases.is(8, x.factors('s', order, 0));
            });
            cases.test("29", "31 alike ahead of a greater one, and of a lesser one, by " + order, () -> {
                long[] numbers = Edges.alike(32, 5);
                numbers[31] = 6;
                cases.is(1, Edges.withRow('l', 0, numbers).factors('l', order, 0));
                numbers[31] = 4;
                cases.is(32, Edges.withRow('l', 0, numbers).factors('l', order, 0));
            });
        }
    }

    private static void factorsByOrder() {
        for (char kind : Edges.KINDS) {
            cases.test("29", "s by compare(), u by compareUnsigned(), of " + kind, () -> {
                Spanjudge x = Edges.withRow(kind, 1, Edges.least(kind), -1, 0, Edges.most(kind));
                cases.is(1, x.factors(kind, 's', 1));
                cases.is(2, x.factors(kind, 'u', 1));
                x.reverse(kind, 1);
                cases.is(4, x.factors(kind, 's', 1));
                cases.is(2, x.factors(kind, 'u', 1));
            });
            cases.noOrder("29", order -> x -> x.factors(kind, order, 0));
            cases.noOrder("29", order -> x -> x.factors(kind, order, 2));
        }
        cases.noKind("29", kind -> x -> x.factors(kind, 's', 0));
        cases.noRow("29", (kind, row) -> x -> x.factors(kind, 's', row));
        cases.noRow("29", (kind, row) -> x -> x.factors(kind, 'u', row));
        cases.refused("29", "no such kind or order ahead of no such row", Cases.ARGUMENT, Edges::busy,
                x -> x.factors('x', 's', 4), x -> x.factors('b', 'x', -1), x -> x.factors('x', 'x', 4));
    }

    private static void factor() {
        for (char order : Edges.ORDERS) {
            for (int size : new int[] {1, 2, 31, 32}) {
                cases.test("30", "each one, the first and the last one too, of " + size + " numbers by " + order, () ->
                    Edges.eachRow((kind, row) -> {
                        Spanjudge alike = Edges.withRow(kind, row, Edges.alike(size, Edges.least(kind)));
                        Spanjudge falling = Edges.withRow(kind, row, Edges.falling(size));
                        for (int place = 0; place < size; place++) {
                            cases.is(place, alike.factor(kind, order, row, place));
                            cases.is(place, falling.factor(kind, order, row, place));
                        }
                        cases.is(0, Edges.withRow(kind, row, Edges.rising(size)).factor(kind, order, row, 0));
                    }));
            }
            cases.test("30", "the same Lyndon word eight times, by " + order, () -> {
                Spanjudge x = Edges.withRow('s', 0, 1, 1, 2, 3);
                x.repeat('s', 0, 8);
                for (int place = 0; place < 8; place++) {
                    cases.is(4 * place, x.factor('s', order, 0, place));
                }
            });
        }
        for (char kind : Edges.KINDS) {
            cases.test("30", "s by compare(), u by compareUnsigned(), of " + kind, () -> {
                Spanjudge x = Edges.withRow(kind, 1, Edges.most(kind), 0, -1, Edges.least(kind));
                for (int place = 0; place < 4; place++) {
                    cases.is(place, x.factor(kind, 's', 1, place));
                }
                cases.is(0, x.factor(kind, 'u', 1, 0));
                cases.is(1, x.factor(kind, 'u', 1, 1));
            });
        }
    }

    private static void factorRefused() {
        cases.noKind("30", kind -> x -> x.factor(kind, 's', 0, 0));
        for (char kind : Edges.KINDS) {
            cases.noOrder("30", order -> x -> x.factor(kind, order, 0, 0));
        }
        cases.noRow("30", (kind, row) -> x -> x.factor(kind, 's', row, 0));
        cases.noRow("30", (kind, row) -> x -> x.factor(kind, 'u', row, 0));
        for (char order : Edges.ORDERS) {
            for (int size : SIZES) {
                String name = ", of " + size + " numbers by " + order;
                cases.test("30", "throws IndexOutOfBoundsException if there is no such one: as many as numbers" + name, () ->
                    Edges.eachRow((kind, row) -> cases.refuses(Cases.INDEX, () -> Edges.withRow(kind, row, Edges.falling(size)),
                            Edges.each(Edges.intsOutside(0, size - 1), place -> x -> x.factor(kind, order, row, place)))));
                cases.test("30", "throws IndexOutOfBoundsException if there is no such one: one at most" + name, () ->
                    Edges.eachRow((kind, row) -> cases.refuses(Cases.INDEX, () -> Edges.withRow(kind, row, Edges.rising(size)),
                            Edges.each(Edges.intsOutside(0, Math.min(size, 1) - 1), place -> x -> x.factor(kind, order, row, place)))));
            }
        }
        cases.test("30", "throws IndexOutOfBoundsException if there is no such one by this order, though there is by the other", () -> {
            for (char kind : Edges.KINDS) {
                cases.refuses(Cases.INDEX, () -> Edges.withRow(kind, 0, -1, 0), x -> x.factor(kind, 's', 0, 1));
                cases.is(1, Edges.withRow(kind, 0, -1, 0).factor(kind, 'u', 0, 1));
                cases.refuses(Cases.INDEX, () -> Edges.withRow(kind, 0, 0, -1), x -> x.factor(kind, 'u', 0, 1));
                cases.is(1, Edges.withRow(kind, 0, 0, -1).factor(kind, 's', 0, 1));
            }
        });
        cases.refused("30", "no such kind or order ahead of no such row or one", Cases.ARGUMENT, Edges::busy,
                x -> x.factor('x', 's', 4, 0), x -> x.factor('b', 'x', 4, 0), x -> x.factor('x', 'u', 0, 1),
                x -> x.factor('b', 'x', 0, -1), x -> x.factor('b', 'x', 2, 0), x -> x.factor('x', 'x', -1, -1));
        cases.refused("30", "no such row, and no such one", Cases.INDEX, Edges::busy,
                x -> x.factor('b', 's', 4, 32), x -> x.factor('b', 'u', -1, -1));
    }
}
