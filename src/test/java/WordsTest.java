/** Promises 14 to 20. */
public final class WordsTest {
    private static final char[] KINDS = {'b', 's', 'i', 'l'};
    private static final char[] QUESTIONS = {'e', 'c', 'u', 'm'};
    private static final char[] NO_QUESTIONS = {'E', 'd', 'n', 't', 'v', 's', (char) 0, (char) 65535};

    private static final Due due = new Due();

    public static void main(String[] args) {
        asks();
        asksTheSame();
        asksRefused();
        asksRows();
        refused();
        common();
        rank();
        rankRefused();
        sort();
        sortStays();
        sorted();
        due.end("WordsTest");
    }

    /** Spans 0 to 5: 1 2 3, 1 2, 1 -2, none, 9 9, 1 2 once more; all of each kind. */
    private static Spanjudge words() {
        Spanjudge x = new Spanjudge();
        for (char kind : KINDS) {
            Due.put(x, kind, 0, 1, 2, 3, 1, -2);
            Due.put(x, kind, 1, 9, 9, 1, 2);
        }
        x.span(0, 0, 0, 3);
        x.span(1, 0, 0, 2);
        x.span(2, 0, 3, 5);
        x.span(3, 1, 1, 1);
        x.span(4, 1, 0, 2);
        x.span(5, 1, 2, 4);
        for (int span = 6; span < 12; span++) {
            x.span(span, 3, 1, 1);
        }
        return x;
    }

    private static void asked(Spanjudge x, int one, int other, int equal, int compared, int unsigned, int mismatch) {
        int[] answers = {equal, compared, unsigned, mismatch};
        for (char kind : KINDS) {
            for (int place = 0; place < 4; place++) {
                char what = QUESTIONS[place];
                String call = "14: asks " + kind + what + " of " + one + " and " + other;
                due.is(call, answers[place], x.asks(kind, what, one, other));
                int turned = what == 'c' || what == 'u' ? -answers[place] : answers[place];
                due.is(call + " turned about", turned, x.asks(kind, what, other, one));
            }
        }
    }

    private static void asks() {
        Spanjudge x = words();
        asked(x, 0, 1, 0, 1, 1, 2);
        asked(x, 0, 2, 0, 1, -1, 1);
        asked(x, 0, 3, 0, 1, 1, 0);
        asked(x, 0, 4, 0, -1, -1, 0);
        asked(x, 1, 5, 1, 0, 0, -1);
        asked(x, 2, 4, 0, -1, -1, 0);
    }

    private static void asksTheSame() {
        Spanjudge x = words();
        for (int span = 0; span < 6; span++) {
            asked(x, span, span, 1, 0, 0, -1);
        }
        Spanjudge y = Due.with('l', 0, Long.MIN_VALUE, Long.MAX_VALUE);
        y.span(0, 0, 0, 1);
        y.span(1, 0, 1, 2);
        due.is("14: far from each other", -1, y.asks('l', 'c', 0, 1));
        due.is("14: far from each other, without signs", 1, y.asks('l', 'u', 0, 1));
    }

    private static void asksRefused() {
        Spanjudge x = words();
        due.argument("14: no kind, no span", x, () -> x.asks('a', 'e', 12, 0));
        for (char none : NO_QUESTIONS) {
            due.argument("14: nothing such, no span", x, () -> x.asks('b', none, 0, -1));
            due.argument("14: nothing such, does not fit", x, () -> x.asks('b', none, 6, 6));
        }
        due.index("14: no span, does not fit", x, () -> x.asks('b', 'e', 6, 12));
        due.index("14: no span", x, () -> x.asks('b', 'e', -1, 6));
        due.index("14: no span", x, () -> x.asks('b', 'e', 0, -1));
        for (char what : QUESTIONS) {
            due.state("14: the first does not fit", x, () -> x.asks('b', what, 6, 0));
            due.state("14: the second does not fit", x, () -> x.asks('b', what, 0, 6));
        }
    }

    private static void asksRows() {
        Spanjudge x = Due.with('s', 0, 1, 2, 3);
        Due.put(x, 's', 1, 1, 2);
        Due.put(x, 's', 2, 1, -2, 7);
        int[][] answers = {{1, 0, 0, 1, 1, 2}, {2, 0, 0, 1, -1, 1}, {3, 0, 0, 1, 1, 0}, {0, 0, 1, 0, 0, -1}, {3, 3, 1, 0, 0, -1}};
        for (int[] row : answers) {
            for (int place = 0; place < 4; place++) {
                char what = QUESTIONS[place];
                due.is("15: asksRows " + what + " " + row[1] + row[0], row[place + 2], x.asksRows('s', what, row[1], row[0]));
            }
        }
        due.is("15: turned about", -1, x.asksRows('s', 'c', 1, 0));
        due.argument("15: no kind, no row", x, () -> x.asksRows('z', 'e', 4, 0));
        for (char none : NO_QUESTIONS) {
            due.argument("15: nothing such, no row", x, () -> x.asksRows('s', none, 0, 4));
        }
        due.index("15: no row", x, () -> x.asksRows('s', 'e', 4, 0));
        due.index("15: no row", x, () -> x.asksRows('s', 'e', -1, 0));
        due.index("15: no row", x, () -> x.asksRows('s', 'e', 0, 4));
        due.index("15: no row", x, () -> x.asksRows('s', 'e', 0, -1));
    }

    private static void refused() {
        Spanjudge x = Due.with('i', 3, 1, 2, 3);
        int[][] ranges = {
            {0, 3, 0}, {0, 0, 0}, {3, 3, 0}, {1, 2, 0},
            {2, 1, 1}, {3, 0, 1}, {4, 3, 1}, {99, 0, 1}, {0, -1, 1}, {3, -9, 1},
            {-1, 2, 2}, {0, 4, 2}, {-1, 4, 2}, {4, 4, 2}, {-1, -1, 2}, {-5, -3, 2},
            {-1, -2, 3}, {6, 5, 3}, {5, 4, 3},
            {Integer.MIN_VALUE, Integer.MAX_VALUE, 2}, {Integer.MAX_VALUE, Integer.MIN_VALUE, 1},
        };
        for (char what : QUESTIONS) {
            for (int[] range : ranges) {
                due.is("16: " + what + " from " + range[0] + " to " + range[1], range[2],
                        x.refused('i', what, 3, range[0], range[1]));
            }
        }
        due.is("16: nothing of nothing", 0, x.refused('b', 'm', 0, 0, 0));
        due.is("16: one of nothing", 2, x.refused('b', 'm', 0, 0, 1));
        due.argument("16: no kind, no row", x, () -> x.refused('j', 'e', 4, 0, 0));
        due.argument("16: nothing such, no row", x, () -> x.refused('i', 'n', 4, 0, 0));
        due.index("16: no row", x, () -> x.refused('i', 'e', 4, 1, 0));
        due.index("16: no row", x, () -> x.refused('i', 'e', -1, 0, 0));
    }

    private static void common() {
        Spanjudge x = words();
        int[][] pairs = {{0, 1, 2}, {0, 2, 1}, {0, 3, 0}, {0, 4, 0}, {1, 5, 2}, {0, 0, 3}, {3, 3, 0}, {4, 4, 2}};
        for (int[] pair : pairs) {
            due.is("17: " + pair[0] + " and " + pair[1], pair[2], x.common('b', pair[0], pair[1]));
            due.is("17: turned about", pair[2], x.common('l', pair[1], pair[0]));
        }
        due.argument("17: no kind, no span", x, () -> x.common('e', 12, 0));
        due.index("17: no span, does not fit", x, () -> x.common('b', 6, 12));
        due.index("17: no span", x, () -> x.common('b', -1, 6));
        due.state("17: does not fit", x, () -> x.common('b', 6, 0));
        due.state("17: does not fit", x, () -> x.common('b', 0, 6));
    }

    private static void rank() {
        Spanjudge x = words();
        int[] signed = {4, 2, 1, 0, 5, 2};
        int[] unsigned = {3, 1, 4, 0, 5, 1};
        for (int span = 0; span < 6; span++) {
            due.is("18: with signs " + span, signed[span], x.rank('s', 's', span));
            due.is("18: without signs " + span, unsigned[span], x.rank('i', 'u', span));
        }
    }

    private static void rankRefused() {
        Spanjudge x = words();
        due.argument("18: no kind, no span", x, () -> x.rank('f', 's', 12));
        for (char none : new char[] {'S', 'c', 't', 'v', 'n', (char) 0}) {
            due.argument("18: no order, no span", x, () -> x.rank('b', none, 12));
            due.argument("18: no order, does not fit", x, () -> x.rank('b', none, 6));
        }
        due.index("18: no span", x, () -> x.rank('b', 's', 12));
        due.index("18: no span", x, () -> x.rank('b', 's', -1));
        due.state("18: does not fit", x, () -> x.rank('b', 'u', 6));
    }

    private static String list(Spanjudge x, int count) {
        StringBuilder text = new StringBuilder();
        for (int place = 0; place < count; place++) {
            text.append(place == 0 ? "" : " ").append(x.sorted(place));
        }
        return text.toString();
    }

    private static void sort() {
        Spanjudge x = words();
        for (char kind : KINDS) {
            due.is("19: with signs", 6, x.sort(kind, 's'));
            due.is("19: with signs", "3 2 1 5 0 4", list(x, 6));
            due.is("19: without signs", 6, x.sort(kind, 'u'));
            due.is("19: without signs", "3 1 5 0 2 4", list(x, 6));
        }
        Spanjudge y = new Spanjudge();
        due.is("19: all the same", 12, y.sort('l', 'u'));
        due.is("19: all the same", "0 1 2 3 4 5 6 7 8 9 10 11", list(y, 12));
        for (int span = 0; span < 12; span++) {
            y.span(span, 0, 0, 1);
        }
        due.is("19: none fits", 0, y.sort('l', 'u'));
        due.index("19: none in the list", y, () -> y.sorted(0));
        due.argument("19: no kind", x, () -> x.sort('x', 's'));
        due.argument("19: no order", x, () -> x.sort('b', 'b'));
    }

    private static void sortStays() {
        Spanjudge x = words();
        x.sort('b', 's');
        x.clear('b', 0);
        x.span(4, 0, 0, 0);
        due.argument("19: a refused one leaves the list", x, () -> x.sort('b', 'x'));
        due.is("19: the list stays", "3 2 1 5 0 4", list(x, 6));
        due.is("19: of those that fit now", 3, x.sort('b', 's'));
        due.is("19: of those that fit now", "3 4 5", list(x, 3));
        due.index("19: the list is shorter", x, () -> x.sorted(3));
    }

    private static void sorted() {
        Spanjudge x = words();
        due.index("20: nothing sorted yet", x, () -> x.sorted(0));
        x.sort('s', 's');
        due.is("20: the first one", 3, x.sorted(0));
        due.is("20: the last one", 4, x.sorted(5));
        due.index("20: behind the last one", x, () -> x.sorted(6));
        due.index("20: ahead of the first one", x, () -> x.sorted(-1));
        due.index("20: far out", x, () -> x.sorted(Integer.MAX_VALUE));
    }
}
