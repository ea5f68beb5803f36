import java.util.ArrayList;
import java.util.List;

/** The THEOREM of "Terms" by the calls of the face, at its edges, as isTrue() and rowIsTrue() tell only that it holds. */
public final class TheoremBoundaryTest {
    private static final int SPANS = 12;

    private static final Cases cases = new Cases("TheoremBoundaryTest");

    public static void main(String[] args) {
        for (char kind : Edges.KINDS) {
            alikeAndEqual(kind);
            order(kind);
            otherNumbers(kind);
            three(kind);
        }
        for (char kind : Edges.KINDS) {
            differentWords(kind);
            periods(kind);
            divisors(kind);
            lyndonWords(kind);
        }
        cases.end();
    }

    /** Twelve words: without numbers, with one at an edge of the kind, of 31 and of 32, beginning each other, and twice the same. */
    private static Spanjudge words(char kind) {
        Spanjudge x = Edges.withRow(kind, 0, Edges.least(kind), -1, 0, 1, Edges.most(kind));
        Due.put(x, kind, 1, Edges.rising(32));
        x.convert(kind, 1, kind, 2, 'n');
        x.set(kind, 2, 31, -32);
        Due.put(x, kind, 3, -1);
        int[][] spans = {{0, 0, 0}, {0, 0, 1}, {0, 1, 2}, {0, 2, 3}, {0, 4, 5}, {0, 0, 5},
            {1, 0, 1}, {1, 0, 31}, {1, 0, 32}, {2, 0, 32}, {3, 0, 1}, {3, 1, 1}};
        for (int span = 0; span < SPANS; span++) {
            x.span(span, spans[span][0], spans[span][1], spans[span][2]);
        }
        return x;
    }

    /** The answers of asks() of each two spans. */
    private static int[][] asked(char kind, char what) {
        Spanjudge x = words(kind);
        int[][] answers = new int[SPANS][SPANS];
        for (int one = 0; one < SPANS; one++) {
            for (int other = 0; other < SPANS; other++) {
                answers[one][other] = x.asks(kind, what, one, other);
            }
        }
        return answers;
    }

    private static int[][] common(char kind) {
        Spanjudge x = words(kind);
        int[][] answers = new int[SPANS][SPANS];
        for (int one = 0; one < SPANS; one++) {
            for (int other = 0; other < SPANS; other++) {
                answers[one][other] = x.common(kind, one, other);
            }
        }
        return answers;
    }

    private static List<Long> word(Spanjudge x, char kind, int span) {
        return State.row(x, kind, x.tells(span, 'r')).subList(x.tells(span, 'f'), x.tells(span, 't'));
    }

    private static void alikeAndEqual(char kind) {
        cases.test("Terms", "THEOREM (1): mismatch() is what is common, or -1 for the same word, of " + kind, () -> {
            int[][] mismatch = asked(kind, 'm');
            int[][] common = common(kind);
            for (int one = 0; one < SPANS; one++) {
                List<Long> x = word(words(kind), kind, one);
                for (int other = 0; other < SPANS; other++) {
                    List<Long> y = word(words(kind), kind, other);
                    int count = alike(x, y);
                    cases.is(one + " and " + other, count, common[one][other]);
                    cases.is(one + " and " + other, x.equals(y) ? -1 : count, mismatch[one][other]);
                }
            }
        });
        cases.test("Terms", "THEOREM (1): equals() is 1 just if mismatch() is -1, compare() 0, compareUnsigned() 0, of " + kind, () -> {
            int[][] equal = asked(kind, 'e');
            int[][] compared = asked(kind, 'c');
            int[][] unsigned = asked(kind, 'u');
            int[][] mismatch = asked(kind, 'm');
            for (int one = 0; one < SPANS; one++) {
                for (int other = 0; other < SPANS; other++) {
                    boolean same = equal[one][other] == 1;
                    cases.is(same, mismatch[one][other] == -1);
                    cases.is(same, compared[one][other] == 0);
                    cases.is(same, unsigned[one][other] == 0);
                }
            }
        });
    }

    private static int alike(List<Long> x, List<Long> y) {
        int count = 0;
        while (count < x.size() && count < y.size() && x.get(count).equals(y.get(count))) {
            count++;
        }
        return count;
    }

    private static void order(char kind) {
        for (char what : new char[] {'c', 'u'}) {
            int[][] compared = asked(kind, what);
            cases.test("Terms", "THEOREM (2): turned about it is of the other sign, by " + what + " of " + kind, () -> {
                for (int one = 0; one < SPANS; one++) {
                    for (int other = 0; other < SPANS; other++) {
                        cases.is(-compared[one][other], compared[other][one]);
                    }
                }
            });
            cases.test("Terms", "THEOREM (2): less than what is less than a third is less, by " + what + " of " + kind, () -> {
                for (int one = 0; one < SPANS; one++) {
                    for (int other = 0; other < SPANS; other++) {
                        for (int third = 0; third < SPANS; third++) {
                            boolean wanted = compared[one][other] < 0 && compared[other][third] < 0;
                            cases.is(true, !wanted || compared[one][third] < 0);
                        }
                    }
                }
            });
            cases.test("Terms", "THEOREM (2): rank() and sort() are by that order, by " + what + " of " + kind, () -> {
                Spanjudge x = words(kind);
                char order = what == 'c' ? 's' : 'u';
                cases.is(SPANS, x.sort(kind, order));
                for (int place = 0; place < SPANS; place++) {
                    int lesser = 0;
                    for (int other = 0; other < SPANS; other++) {
                        lesser += compared[other][x.sorted(place)] < 0 ? 1 : 0;
                    }
                    cases.is(lesser, x.rank(kind, order, x.sorted(place)));
                    cases.is(true, place == 0 || compared[x.sorted(place - 1)][x.sorted(place)] <= 0);
                }
            });
        }
    }

    /** What asks() tells of the same spans, once all rows of a kind are converted. */
    private static void convertedIsAsked(char kind, char what, char other, char how) {
        int[][] due = asked(kind, what);
        Spanjudge x = words(kind);
        for (int row = 0; row < 4; row++) {
            x.convert(kind, row, other, row, how);
        }
        for (int one = 0; one < SPANS; one++) {
            for (int second = 0; second < SPANS; second++) {
                cases.is(one + " and " + second, due[one][second], x.asks(other, 'c', one, second));
            }
        }
    }

    private static void otherNumbers(char kind) {
        cases.test("Terms", "THEOREM (2): compareUnsigned() is compare() with the top bits turned, of " + kind, () ->
            convertedIsAsked(kind, 'u', kind, 't'));
        cases.test("Terms", "THEOREM (2): compare() is that of the longs of the same numbers, of " + kind, () ->
            convertedIsAsked(kind, 'c', 'l', 'n'));
        if (kind != 'l') {
            cases.test("Terms", "THEOREM (2): compareUnsigned() is compare() of the longs without signs, of " + kind, () ->
                convertedIsAsked(kind, 'u', 'l', 'u'));
        }
    }

    private static void three(char kind) {
        for (char what : new char[] {'c', 'u'}) {
            cases.test("Terms", "THEOREM (3): for x not above y and y not above z, the same ones too, by " + what + " of " + kind, () -> {
                int[][] compared = asked(kind, what);
                int[][] common = common(kind);
                for (int x = 0; x < SPANS; x++) {
                    for (int y = 0; y < SPANS; y++) {
                        for (int z = 0; z < SPANS; z++) {
                            if (compared[x][y] <= 0 && compared[y][z] <= 0) {
                                cases.is(Math.min(common[x][y], common[y][z]), common[x][z]);
                            }
                        }
                    }
                }
            });
        }
    }

    private static long[] repeated(int size, String word) {
        long[] numbers = new long[size];
        for (int place = 0; place < size; place++) {
            numbers[place] = word.charAt(place % word.length()) - 'c';
        }
        return numbers;
    }

    private static List<long[]> someRows(char kind) {
        List<long[]> rows = new ArrayList<>();
        rows.add(new long[0]);
        rows.add(new long[] {Edges.least(kind)});
        rows.add(new long[] {-1, -1});
        rows.add(new long[] {-1, 0});
        rows.add(new long[] {0, -1});
        rows.add(new long[] {Edges.most(kind), Edges.least(kind), Edges.most(kind)});
        rows.add(new long[] {0, Edges.most(kind), Edges.least(kind), -1, 0});
        rows.add(Edges.alike(31, -1));
        rows.add(Edges.alike(32, 1));
        rows.add(Edges.rising(32));
        rows.add(Edges.falling(32));
        rows.add(repeated(32, "abaababaabaababaababaabaababaabaab"));
        rows.add(repeated(32, "abcd"));
        rows.add(repeated(31, "dcba"));
        rows.add(repeated(11, "abaab"));
        rows.add(repeated(32, "aaaaaaaaaaaaaaaaaaaaaaaaaaaaaaad"));
        return rows;
    }

    private static void differentWords(char kind) {
        for (char order : Edges.ORDERS) {
            cases.test("Terms", "THEOREM (4): n times n + 1, divided by 2, less what neighbours have alike, n 0, 1 and 32, by "
                    + order + " of " + kind, () -> {
                for (long[] numbers : someRows(kind)) {
                    Spanjudge x = Edges.withRow(kind, 1, numbers);
                    List<Long> row = Edges.longs(numbers);
                    int n = numbers.length;
                    int due = n * (n + 1) / 2;
                    for (int place = 1; place < n; place++) {
                        int one = x.ending(kind, order, 1, place - 1);
                        int other = x.ending(kind, order, 1, place);
                        due -= alike(row.subList(one, n), row.subList(other, n));
                    }
                    cases.is(row + " has", due, x.distinct(kind, 1));
                }
            });
        }
    }

    private static void periods(char kind) {
        cases.test("Terms", "THEOREM (5): p is a period just if the row without its last p is that without its first p, up to n, of "
                + kind, () -> {
            for (long[] numbers : someRows(kind)) {
                Spanjudge x = Edges.withRow(kind, 2, numbers);
                int least = 0;
                for (int p = numbers.length; p >= 1; p--) {
                    x.span(0, 2, 0, numbers.length - p);
                    x.span(1, 2, p, numbers.length);
                    boolean due = x.asks(kind, 'e', 0, 1) == 1;
                    cases.is(due, x.isPeriod(kind, 2, p));
                    least = due ? p : least;
                }
                cases.is(least, x.period(kind, 2));
            }
        });
    }

    private static int greatestDivisor(int p, int q) {
        return q == 0 ? p : greatestDivisor(q, p % q);
    }

    private static void divisors(char kind) {
        cases.test("Terms", "THEOREM (5): if p + q less their divisor is at most n, the divisor is a period, of " + kind, () -> {
            for (long[] numbers : someRows(kind)) {
                Spanjudge x = Edges.withRow(kind, 2, numbers);
                boolean[] isPeriod = new boolean[numbers.length + 1];
                for (int p = 1; p <= numbers.length; p++) {
                    isPeriod[p] = x.isPeriod(kind, 2, p);
                }
                for (int p = 1; p <= numbers.length; p++) {
                    for (int q = 1; q <= numbers.length; q++) {
                        int divisor = greatestDivisor(p, q);
                        boolean wanted = isPeriod[p] && isPeriod[q] && p + q - divisor <= numbers.length;
                        cases.is(true, !wanted || isPeriod[divisor]);
                    }
                }
            }
        });
        cases.test("Terms", "THEOREM (5): if p + q less their divisor is n + 1, it need not be one, of " + kind, () -> {
            Spanjudge x = Edges.withRow(kind, 0, repeated(11, "abaab"));
            cases.is(true, x.isPeriod(kind, 0, 5));
            cases.is(true, x.isPeriod(kind, 0, 8));
            cases.is(false, x.isPeriod(kind, 0, 1));
            cases.is(true, x.rowIsTrue(kind, 's', 0));
            long[] spread = Edges.alike(23, 9);
            for (int place = 0; place < 11; place++) {
                spread[2 * place + 1] = repeated(11, "abaab")[place];
            }
            Due.put(x, kind, 1, spread);
            cases.is(true, x.isPeriod(kind, 1, 10));
            cases.is(true, x.isPeriod(kind, 1, 16));
            cases.is(false, x.isPeriod(kind, 1, 2));
            cases.is(true, x.rowIsTrue(kind, 'u', 1));
        });
    }

    private static void lyndonWords(char kind) {
        for (char order : Edges.ORDERS) {
            char what = order == 's' ? 'c' : 'u';
            cases.test("Terms", "THEOREM (6): each factor is a Lyndon word, not less than the next, by " + order + " of " + kind, () -> {
                for (long[] numbers : someRows(kind)) {
                    Spanjudge x = Edges.withRow(kind, 3, numbers);
                    int count = x.factors(kind, order, 3);
                    for (int place = 0; place < count; place++) {
                        int from = x.factor(kind, order, 3, place);
                        int to = place + 1 < count ? x.factor(kind, order, 3, place + 1) : numbers.length;
                        cases.is(true, from < to && (place > 0 || from == 0));
                        isLyndon(Edges.withRow(kind, 3, numbers), kind, what, from, to);
                        if (place > 0) {
                            x.span(0, 3, x.factor(kind, order, 3, place - 1), from);
                            x.span(1, 3, from, to);
                            cases.is(true, x.asks(kind, what, 0, 1) >= 0);
                        }
                    }
                }
            });
            cases.test("Terms", "THEOREM (6): the last one begins where the least ending begins, by " + order + " of " + kind, () -> {
                for (long[] numbers : someRows(kind)) {
                    if (numbers.length > 0) {
                        Spanjudge x = Edges.withRow(kind, 3, numbers);
                        int last = x.factors(kind, order, 3) - 1;
                        cases.is(x.ending(kind, order, 3, 0), x.factor(kind, order, 3, last));
                    }
                }
            });
        }
    }

    private static void isLyndon(Spanjudge x, char kind, char what, int from, int to) {
        x.span(0, 3, from, to);
        for (int later = from + 1; later < to; later++) {
            x.span(1, 3, later, to);
            cases.is(-1, x.asks(kind, what, 0, 1));
        }
    }
}
