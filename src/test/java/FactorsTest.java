/** Promises 25 to 30. */
public final class FactorsTest {
    private static final char[] NO_ORDERS = {'S', 'U', 'r', 't', 'v', (char) 0};

    private static final Due due = new Due();

    public static void main(String[] args) {
        isPeriod();
        period();
        root();
        rotation();
        factors();
        factor();
        due.end("FactorsTest");
    }

    private static void isPeriod() {
        Spanjudge x = Due.with('b', 0, Due.letters("abaababa"));
        boolean[] answers = {false, false, false, false, true, false, true, true};
        for (int period = 1; period <= 8; period++) {
            int asked = period;
            due.answers("25: " + period, answers[period - 1], () -> x.isPeriod('b', 0, asked));
        }
        due.index("25: 0", x, () -> x.isPeriod('b', 0, 0));
        due.index("25: below 0", x, () -> x.isPeriod('b', 0, -1));
        due.index("25: above the length", x, () -> x.isPeriod('b', 0, 9));
        due.index("25: far out", x, () -> x.isPeriod('b', 0, Integer.MIN_VALUE));
        due.index("25: none of a row without numbers", x, () -> x.isPeriod('b', 1, 1));
        due.index("25: 0 of a row without numbers", x, () -> x.isPeriod('b', 1, 0));
        due.argument("25: no kind, no row", x, () -> x.isPeriod('x', 4, 1));
        due.index("25: no row", x, () -> x.isPeriod('b', 4, 1));
        due.index("25: no row", x, () -> x.isPeriod('b', -1, 1));
    }

    private static void ofWords(String promise, String word, int periodDue, int rootDue) {
        Spanjudge x = Due.with('s', 2, Due.letters(word));
        due.is(promise + ": period of " + word, periodDue, x.period('s', 2));
        due.is(promise + ": root of " + word, rootDue, x.root('s', 2));
    }

    private static void period() {
        ofWords("26", "", 0, 0);
        ofWords("26", "a", 1, 1);
        ofWords("26", "abaababa", 5, 8);
        ofWords("26", "abcabcab", 3, 8);
        ofWords("26", "abcd", 4, 4);
        Spanjudge x = new Spanjudge();
        due.argument("26: no kind, no row", x, () -> x.period('x', 4));
        due.index("26: no row", x, () -> x.period('b', 4));
        due.index("26: no row", x, () -> x.period('b', -1));
    }

    private static void root() {
        ofWords("27", "aaaa", 1, 1);
        ofWords("27", "abab", 2, 2);
        ofWords("27", "ababa", 2, 5);
        ofWords("27", "abcabc", 3, 3);
        ofWords("27", "aabaabaab", 3, 3);
        ofWords("27", "aabaabaa", 3, 8);
        Spanjudge x = new Spanjudge();
        due.argument("27: no kind, no row", x, () -> x.root('x', 4));
        due.index("27: no row", x, () -> x.root('b', 4));
        due.index("27: no row", x, () -> x.root('b', -1));
    }

    private static void rotation() {
        Spanjudge x = Due.with('i', 0, 1, 0, -1, 0, 1, 0, -1, 0);
        due.is("28: the least place of two", 2, x.rotation('i', 's', 0));
        due.is("28: without signs", 3, x.rotation('i', 'u', 0));
        Due.put(x, 'i', 1, 2, 1);
        due.is("28: the last place", 1, x.rotation('i', 's', 1));
        Due.put(x, 'i', 1, 1, 2, 1);
        due.is("28: behind the end comes the beginning", 2, x.rotation('i', 's', 1));
        Due.put(x, 'i', 1, 5, 5, 5);
        due.is("28: all alike", 0, x.rotation('i', 'u', 1));
        due.is("28: none", -1, x.rotation('i', 's', 2));
        due.argument("28: no kind, no row", x, () -> x.rotation('x', 's', 4));
        for (char none : NO_ORDERS) {
            due.argument("28: no order, no row", x, () -> x.rotation('i', none, 4));
            due.argument("28: no order, no numbers", x, () -> x.rotation('i', none, 2));
        }
        due.index("28: no row", x, () -> x.rotation('i', 's', 4));
        due.index("28: no row", x, () -> x.rotation('i', 's', -1));
    }

    private static String factorsOf(Spanjudge x, char kind, char order, int row) {
        StringBuilder text = new StringBuilder();
        for (int place = 0; place < x.factors(kind, order, row); place++) {
            text.append(place == 0 ? "" : " ").append(x.factor(kind, order, row, place));
        }
        return text.toString();
    }

    private static void factors() {
        Spanjudge x = Due.with('b', 0, Due.letters("banana"));
        due.is("29: banana", 4, x.factors('b', 's', 0));
        due.is("29: none", 0, x.factors('b', 's', 1));
        Due.put(x, 'b', 1, 1, 2, 3, 4);
        due.is("29: one Lyndon word", 1, x.factors('b', 's', 1));
        x.reverse('b', 1);
        due.is("29: four", 4, x.factors('b', 's', 1));
        Due.put(x, 'b', 1, 3, 3, 3);
        due.is("29: all alike", 3, x.factors('b', 'u', 1));
        due.argument("29: no kind, no row", x, () -> x.factors('x', 's', 4));
        for (char none : NO_ORDERS) {
            due.argument("29: no order, no row", x, () -> x.factors('b', none, 4));
        }
        due.index("29: no row", x, () -> x.factors('b', 's', 4));
        due.index("29: no row", x, () -> x.factors('b', 's', -1));
    }

    private static void factor() {
        Spanjudge x = Due.with('b', 0, Due.letters("banana"));
        due.is("30: banana", "0 1 3 5", factorsOf(x, 'b', 's', 0));
        Due.put(x, 'l', 1, 0, 1, 0, 1, 0, -1);
        due.is("30: with signs", "0 2 4 5", factorsOf(x, 'l', 's', 1));
        due.is("30: without signs", "0", factorsOf(x, 'l', 'u', 1));
        due.index("30: no such one without signs", x, () -> x.factor('l', 'u', 1, 1));
        Due.put(x, 'i', 3, -1, 7, -1, 7, -2);
        due.is("30: with signs", "0 2 4", factorsOf(x, 'i', 's', 3));
        due.is("30: without signs", "0 1 3", factorsOf(x, 'i', 'u', 3));
        Due.put(x, 's', 2, Due.letters("abaabaaabaab"));
        due.is("30: abaabaaabaab", "0 2 5", factorsOf(x, 's', 's', 2));
        due.index("30: no such one", x, () -> x.factor('b', 's', 0, 4));
        due.index("30: below 0", x, () -> x.factor('b', 's', 0, -1));
        due.index("30: none of a row without numbers", x, () -> x.factor('b', 's', 3, 0));
        due.argument("30: no kind, no row", x, () -> x.factor('x', 's', 4, 0));
        for (char none : NO_ORDERS) {
            due.argument("30: no order, no such one", x, () -> x.factor('b', none, 0, 9));
        }
        due.index("30: no row", x, () -> x.factor('b', 's', 4, 0));
        due.index("30: no row", x, () -> x.factor('b', 's', -1, 0));
    }
}
