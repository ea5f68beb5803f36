/** Promises 21 to 24. */
public final class EndingsTest {
    private static final char[] NO_ORDERS = {'S', 'U', 'r', 't', 'v', (char) 0};

    private static final Due due = new Due();

    public static void main(String[] args) {
        ending();
        endingRefused();
        distinct();
        longest();
        occurs();
        occursRefused();
        due.end("EndingsTest");
    }

    private static String endings(Spanjudge x, char kind, char order, int row) {
        StringBuilder text = new StringBuilder();
        for (int place = 0; place < x.length(kind, row); place++) {
            text.append(place == 0 ? "" : " ").append(x.ending(kind, order, row, place));
        }
        return text.toString();
    }

    private static void ending() {
        Spanjudge x = Due.with('b', 1, Due.letters("banana"));
        due.is("21: banana", "5 3 1 0 4 2", endings(x, 'b', 's', 1));
        due.is("21: banana without signs", "5 3 1 0 4 2", endings(x, 'b', 'u', 1));
        Due.put(x, 'l', 2, 0, -1, 0, Long.MIN_VALUE);
        due.is("21: with signs", "3 1 2 0", endings(x, 'l', 's', 2));
        due.is("21: without signs", "2 0 3 1", endings(x, 'l', 'u', 2));
        Due.put(x, 'i', 0, 7, 7, 7, 7);
        due.is("21: all alike", "3 2 1 0", endings(x, 'i', 's', 0));
        Due.put(x, 's', 3, 5);
        due.is("21: one", "0", endings(x, 's', 'u', 3));
        x.repeat('b', 1, 5);
        due.is("21: the least of a longer row", 29, x.ending('b', 's', 1, 0));
        Due.put(x, 'b', 2, Due.letters("banana"));
        due.is("21: banana after a longer row", "5 3 1 0 4 2", endings(x, 'b', 's', 2));
    }

    private static void endingRefused() {
        Spanjudge x = Due.with('b', 1, 1, 2);
        due.argument("21: no kind, no row", x, () -> x.ending('x', 's', 4, 0));
        for (char none : NO_ORDERS) {
            due.argument("21: no order, no row", x, () -> x.ending('b', none, 4, 0));
        }
        due.index("21: no row", x, () -> x.ending('b', 's', 4, 0));
        due.index("21: no row", x, () -> x.ending('b', 's', -1, 0));
        due.index("21: no place", x, () -> x.ending('b', 's', 1, 2));
        due.index("21: no place", x, () -> x.ending('b', 'u', 1, -1));
        due.index("21: no place of a row without numbers", x, () -> x.ending('b', 's', 0, 0));
    }

    private static void distinct() {
        Spanjudge x = Due.with('b', 1, Due.letters("banana"));
        due.is("22: banana", 15, x.distinct('b', 1));
        due.is("22: none", 0, x.distinct('b', 0));
        Due.put(x, 'i', 0, 7, 7, 7, 7);
        due.is("22: all alike", 4, x.distinct('i', 0));
        for (long number = 0; number < 32; number++) {
            x.append('l', 0, -number);
        }
        due.is("22: all unlike", 528, x.distinct('l', 0));
        due.is("22: banana after a longer row", 15, x.distinct('b', 1));
        due.argument("22: no kind, no row", x, () -> x.distinct('x', 4));
        due.index("22: no row", x, () -> x.distinct('b', 4));
        due.index("22: no row", x, () -> x.distinct('b', -1));
    }

    private static void longest() {
        Spanjudge x = Due.with('b', 1, Due.letters("banana"));
        due.is("23: banana", 3, x.longest('b', 1));
        due.is("23: none", 0, x.longest('b', 0));
        Due.put(x, 'b', 2, 1, 2, 3);
        due.is("23: all unlike", 0, x.longest('b', 2));
        Due.put(x, 'b', 2, 1, 2, 1);
        due.is("23: one number twice", 1, x.longest('b', 2));
        Due.put(x, 'i', 0, new long[32]);
        due.is("23: all alike", 31, x.longest('i', 0));
        due.is("23: banana after a longer row", 3, x.longest('b', 1));
        due.argument("23: no kind, no row", x, () -> x.longest('x', 4));
        due.index("23: no row", x, () -> x.longest('b', 4));
        due.index("23: no row", x, () -> x.longest('b', -1));
    }

    private static void occurs() {
        Spanjudge x = Due.with('b', 1, Due.letters("banana"));
        int[][] spans = {{1, 4, 2}, {3, 4, 3}, {0, 6, 1}, {4, 6, 2}, {0, 1, 1}, {2, 2, 7}, {6, 6, 7}};
        for (int[] span : spans) {
            x.span(3, 1, span[0], span[1]);
            due.is("24: " + span[0] + " to " + span[1], span[2], x.occurs('b', 1, 3));
        }
        x.span(3, 1, 0, 6);
        due.is("24: longer than the row", 0, x.occurs('b', 0, 3));
        Due.put(x, 'b', 0, Due.letters("nanana"));
        due.is("24: as long as the row", 0, x.occurs('b', 0, 3));
        x.span(4, 0, 1, 4);
        due.is("24: of another row", 2, x.occurs('b', 1, 4));
        x.span(4, 0, 0, 0);
        due.is("24: none in a row without numbers", 1, x.occurs('b', 2, 4));
    }

    private static void occursRefused() {
        Spanjudge x = Due.with('b', 1, 1, 2);
        x.span(2, 1, 0, 3);
        due.argument("24: no kind, no row", x, () -> x.occurs('x', 4, 12));
        due.index("24: no row, does not fit", x, () -> x.occurs('b', 4, 2));
        due.index("24: no row", x, () -> x.occurs('b', -1, 0));
        due.index("24: no span", x, () -> x.occurs('b', 1, 12));
        due.index("24: no span", x, () -> x.occurs('b', 1, -1));
        due.state("24: does not fit", x, () -> x.occurs('b', 1, 2));
        due.state("24: does not fit, and the row is shorter", x, () -> x.occurs('b', 0, 2));
    }
}
