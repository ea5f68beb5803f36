/** Promises 11 to 13. */
public final class SpansTest {
    private static final Due due = new Due();

    public static void main(String[] args) {
        span();
        spanRefused();
        tells();
        fits();
        due.end("SpansTest");
    }

    private static void span() {
        Spanjudge x = new Spanjudge();
        due.is("11: 2 to 7", 5, x.span(11, 3, 2, 7));
        due.is("11: its row", 3, x.tells(11, 'r'));
        due.is("11: its from", 2, x.tells(11, 'f'));
        due.is("11: its to", 7, x.tells(11, 't'));
        due.is("11: the whole", 32, x.span(0, 0, 0, 32));
        due.is("11: at the end", 0, x.span(0, 1, 32, 32));
        due.is("11: its from then", 32, x.tells(0, 'f'));
        due.is("11: the others stay", 0, x.tells(1, 'r'));
    }

    private static void spanRefused() {
        Spanjudge x = new Spanjudge();
        x.span(5, 1, 2, 3);
        due.index("11: no span, no range", x, () -> x.span(12, 0, 5, 4));
        due.index("11: no span", x, () -> x.span(-1, 0, 0, 0));
        due.index("11: no row, no range", x, () -> x.span(5, 4, -1, 0));
        due.index("11: no row", x, () -> x.span(5, -1, 0, 0));
        due.argument("11: from below 0", x, () -> x.span(5, 0, -1, 3));
        due.argument("11: to below from", x, () -> x.span(5, 0, 4, 3));
        due.argument("11: to above 32", x, () -> x.span(5, 0, 0, 33));
        due.argument("11: both above 32", x, () -> x.span(5, 0, 33, 33));
        due.argument("11: far out", x, () -> x.span(5, 0, Integer.MIN_VALUE, Integer.MAX_VALUE));
    }

    private static void tells() {
        Spanjudge x = new Spanjudge();
        x.span(4, 2, 8, 9);
        due.is("12: row", 2, x.tells(4, 'r'));
        due.is("12: from", 8, x.tells(4, 'f'));
        due.is("12: to", 9, x.tells(4, 't'));
        due.index("12: no span, nothing such", x, () -> x.tells(12, 'x'));
        due.index("12: no span", x, () -> x.tells(-1, 'r'));
        for (char none : new char[] {'R', 'q', 's', 'e', 'g', 'u', (char) 0, (char) 65535}) {
            due.argument("12: nothing such", x, () -> x.tells(4, none));
        }
    }

    private static void fits() {
        Spanjudge x = Due.with('b', 2, 1, 2, 3);
        due.is("13: 0 to 0 of no numbers", true, x.fits('b', 0));
        x.span(0, 2, 1, 3);
        due.is("13: up to the end", true, x.fits('b', 0));
        due.is("13: not by another kind", false, x.fits('s', 0));
        x.span(0, 2, 1, 4);
        due.is("13: above the end", false, x.fits('b', 0));
        x.span(0, 2, 3, 3);
        due.is("13: nothing at the end", true, x.fits('b', 0));
        x.span(0, 2, 4, 4);
        due.is("13: nothing behind the end", false, x.fits('b', 0));
        x.append('b', 2, 4);
        due.is("13: when the row has grown", true, x.fits('b', 0));
        due.argument("13: no kind, no span", x, () -> x.fits('d', 12));
        due.index("13: no span", x, () -> x.fits('l', 12));
        due.index("13: no span", x, () -> x.fits('l', -1));
    }
}
