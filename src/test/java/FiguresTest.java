/** Promises 31 to 35. */
public final class FiguresTest {
    private static final Due due = new Due();

    public static void main(String[] args) {
        share();
        mean();
        checksum();
        checksumOfAll();
        isTrue();
        rowIsTrue();
        due.end("FiguresTest");
    }

    private static void share() {
        Spanjudge x = Due.with('i', 1, 4, 5, 4, 5, 4);
        due.is("31: all the same", 1.0f, x.share('i'));
        for (int span = 0; span < 12; span++) {
            x.span(span, 3, 1, 1);
        }
        due.state("31: none fits", x, () -> x.share('i'));
        x.span(0, 1, 0, 2);
        due.state("31: one fits", x, () -> x.share('i'));
        x.span(5, 1, 2, 5);
        due.is("31: two unlike ones", 0.0f, x.share('i'));
        x.span(11, 1, 2, 4);
        due.is("31: one pair of three", 1.0f / 3.0f, x.share('i'));
        x.span(7, 1, 0, 2);
        due.is("31: three pairs of six", 0.5f, x.share('i'));
        due.state("31: none fits another kind", x, () -> x.share('l'));
        due.argument("31: no kind", x, () -> x.share('x'));
    }

    private static void mean() {
        Spanjudge x = Due.with('s', 0, 1, 2, 3);
        due.is("32: 3 by 4", 0.75, x.mean('s'));
        Due.put(x, 's', 3, 1, 2);
        due.is("32: 5 by 4", 1.25, x.mean('s'));
        due.is("32: none", 0.0, x.mean('b'));
        for (int row = 0; row < 4; row++) {
            Due.put(x, 'l', row, new long[32]);
        }
        due.is("32: all full", 32.0, x.mean('l'));
        due.argument("32: no kind", x, () -> x.mean('m'));
    }

    private static long with(long sum, long... values) {
        long next = sum;
        for (long value : values) {
            next = 31 * next + value;
        }
        return next;
    }

    private static void checksum() {
        Spanjudge x = new Spanjudge();
        due.is("33: a new object", with(7, new long[16 + 36 + 1]), x.checksum());
        due.is("33: once more", x.checksum(), x.checksum());
        x.append('l', 3, Long.MIN_VALUE);
        long[] values = new long[17 + 36 + 1];
        values[15] = 1;
        values[16] = Long.MIN_VALUE;
        due.is("33: with one number", with(7, values), x.checksum());
        x.clear('l', 3);
        due.is("33: without it", with(7, new long[16 + 36 + 1]), x.checksum());
    }

    private static void checksumOfAll() {
        Spanjudge x = Due.with('b', 1, -3, 4);
        Due.put(x, 's', 0, 5);
        Due.put(x, 'i', 3, 6);
        x.span(0, 1, 0, 2);
        x.span(11, 2, 3, 4);
        x.sort('b', 's');
        long[] lengths = new long[16];
        lengths[1] = 2;
        lengths[4] = 1;
        lengths[11] = 1;
        long[][] numbers = new long[16][0];
        numbers[1] = new long[] {-3, 4};
        numbers[4] = new long[] {5};
        numbers[11] = new long[] {6};
        long sum = 7;
        for (int row = 0; row < 16; row++) {
            sum = with(sum, lengths[row]);
            sum = with(sum, numbers[row]);
        }
        sum = with(sum, 1, 0, 2);
        sum = with(sum, new long[10 * 3]);
        sum = with(sum, 2, 3, 4);
        // Span 11 does not fit, and span 0 has the only word with numbers.
        sum = with(sum, 11, 1, 2, 3, 4, 5, 6, 7, 8, 9, 10, 0);
        due.is("33: all that there is", sum, x.checksum());
    }

    private static Spanjudge words(char kind) {
        Spanjudge x = Due.with(kind, 0, 1, -2, 3, 1, -2, 3, 1, 2);
        Due.put(x, kind, 1, -128, 127, 0, -1);
        int[][] spans = {{0, 0, 3}, {0, 3, 6}, {0, 3, 8}, {0, 6, 8}, {1, 0, 4}, {1, 1, 1}, {0, 0, 8}, {1, 2, 4}};
        for (int span = 0; span < spans.length; span++) {
            x.span(span, spans[span][0], spans[span][1], spans[span][2]);
        }
        x.span(9, 3, 0, 1);
        return x;
    }

    private static void isTrue() {
        for (char kind : new char[] {'b', 's', 'i', 'l'}) {
            for (int one = 0; one < 9; one++) {
                Spanjudge each = words(kind);
                for (int other = 0; other < 9; other++) {
                    for (int third = 0; third < 9; third++) {
                        due.is("34: " + one + " " + other + " " + third, true, each.isTrue(kind, one, other, third));
                    }
                }
            }
            Spanjudge x = words(kind);
            due.state("34: the first does not fit", x, () -> x.isTrue(kind, 9, 0, 0));
            due.state("34: the second does not fit", x, () -> x.isTrue(kind, 0, 9, 0));
            due.state("34: the third does not fit", x, () -> x.isTrue(kind, 0, 0, 9));
            due.index("34: no span, does not fit", x, () -> x.isTrue(kind, 9, 9, 12));
            due.index("34: no span", x, () -> x.isTrue(kind, 0, -1, 9));
            due.index("34: no span", x, () -> x.isTrue(kind, 12, 0, 0));
            due.argument("34: no kind, no span", x, () -> x.isTrue('x', 12, 9, 0));
        }
    }

    private static void rowIsTrue() {
        String[] words = {"", "a", "ab", "ba", "aaaa", "abaababaabaab", "banana", "abcabcabcabcabcabcabcabcabcabcab",
            "abcdefghijklmnopqrstuvwxyzABCDEF", "aaaaaaaaaaaaaaaaaaaaaaaaaaaaaaaa"};
        Spanjudge x = new Spanjudge();
        for (String word : words) {
            Due.put(x, 'b', 2, Due.letters(word));
            x.convert('b', 2, 'b', 1, 't');
            for (int row = 1; row <= 2; row++) {
                due.is("35: " + word, true, x.rowIsTrue('b', 's', row));
                due.is("35: " + word, true, x.rowIsTrue('b', 'u', row));
            }
        }
        due.argument("35: no kind, no row", x, () -> x.rowIsTrue('x', 's', 4));
        due.argument("35: no order, no row", x, () -> x.rowIsTrue('b', 'x', 4));
        due.index("35: no row", x, () -> x.rowIsTrue('b', 's', 4));
        due.index("35: no row", x, () -> x.rowIsTrue('b', 'u', -1));
    }
}
