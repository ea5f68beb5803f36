import java.util.ArrayList;
import java.util.List;

/** The boundary cases of promises 11 to 13. */
public final class SpansBoundaryTest {
    private static final Cases cases = new Cases("SpansBoundaryTest");

    public static void main(String[] args) {
        span();
        spanRefused();
        tells();
        fits();
        cases.end();
    }

    private static void span() {
        cases.test("11", "each span, 0 to 11, of each row, 0 to 3", () -> {
            for (int span = 0; span < 12; span++) {
                for (int row = 0; row < 4; row++) {
                    Spanjudge x = Edges.busy();
                    cases.is(5, x.span(span, row, 7, 12));
                    for (int told = 0; told < 12; told++) {
                        cases.is(told == span ? List.of(row, 7, 12) : State.span(Edges.busy(), told), State.span(x, told));
                    }
                }
            }
        });
        cases.test("11", "each from of 0 to 32 and to of from to 32; returns to less from", () -> {
            for (int from = 0; from <= 32; from++) {
                for (int to = from; to <= 32; to++) {
                    Spanjudge x = new Spanjudge();
                    cases.is(to - from, x.span(11, 3, from, to));
                    cases.is(List.of(3, from, to), State.span(x, 11));
                }
            }
        });
        cases.test("11", "the longest one and those without numbers at both ends", () -> {
            Spanjudge x = new Spanjudge();
            cases.is(32, x.span(0, 0, 0, 32));
            cases.is(0, x.span(0, 0, 32, 32));
            cases.is(0, x.span(0, 0, 0, 0));
            cases.is(1, x.span(0, 0, 31, 32));
        });
        cases.test("11", "changes that span alone: rows and list stay", () -> {
            Spanjudge x = Edges.busy();
            x.span(7, 0, 32, 32);
            x.span(7, 3, 0, 32);
            cases.is(State.of(Edges.busy()), State.of(x));
        });
    }

    private static void spanRefused() {
        cases.refused("11", "throws IndexOutOfBoundsException if there is no such span", Cases.INDEX, Edges::busy,
                Edges.each(Edges.intsOutside(0, 11), span -> x -> x.span(span, 0, 0, 0)));
        cases.refused("11", "throws IndexOutOfBoundsException if there is no such row", Cases.INDEX, Edges::busy,
                Edges.each(Edges.intsOutside(0, 3), row -> x -> x.span(4, row, 0, 0)));
        List<Cases.Call> below = new ArrayList<>();
        List<Cases.Call> turned = new ArrayList<>();
        List<Cases.Call> above = new ArrayList<>();
        for (int from : Edges.intsOutside(0, Integer.MAX_VALUE)) {
            below.addAll(List.of(x -> x.span(4, 3, from, 0), x -> x.span(4, 2, from, 32), x -> x.span(11, 3, from, from),
                    x -> x.span(0, 1, from, Integer.MAX_VALUE)));
        }
        for (int to = -1; to <= 32; to++) {
            int asked = to;
            turned.addAll(List.of(x -> x.span(4, 3, asked + 1, asked), x -> x.span(11, 2, Integer.MAX_VALUE, asked),
                    x -> x.span(0, 3, asked, Integer.MIN_VALUE)));
        }
        for (int to : Edges.intsOutside(Integer.MIN_VALUE + 2, 32)) {
            if (to > 32) {
                above.addAll(List.of(x -> x.span(4, 3, 0, to), x -> x.span(11, 2, 32, to), x -> x.span(0, 3, to, to)));
            }
        }
        cases.refused("11", "throws IllegalArgumentException if from is below 0", Cases.ARGUMENT, Edges::busy, below);
        cases.refused("11", "throws IllegalArgumentException if to is below from", Cases.ARGUMENT, Edges::busy, turned);
        cases.refused("11", "throws IllegalArgumentException if to is above 32", Cases.ARGUMENT, Edges::busy, above);
        cases.refused("11", "no such span ahead of from or to out of range", Cases.INDEX, Edges::busy,
                x -> x.span(12, 0, -1, 0), x -> x.span(-1, 0, 2, 1), x -> x.span(12, 0, 0, 33));
        cases.refused("11", "no such row ahead of from or to out of range", Cases.INDEX, Edges::busy,
                x -> x.span(0, 4, -1, 0), x -> x.span(0, -1, 2, 1), x -> x.span(11, 4, 0, 33));
    }

    private static void tells() {
        cases.test("12", "of each span its row, its from and its to", () -> {
            for (int span = 0; span < 12; span++) {
                Spanjudge x = new Spanjudge();
                x.span(span, 3, 31, 32);
                cases.is(3, x.tells(span, 'r'));
                cases.is(31, x.tells(span, 'f'));
                cases.is(32, x.tells(span, 't'));
            }
        });
        cases.test("12", "the least and the greatest of each", () -> {
            Spanjudge x = new Spanjudge();
            x.span(11, 3, 32, 32);
            cases.is(List.of(3, 32, 32), State.span(x, 11));
            x.span(11, 0, 0, 0);
            cases.is(List.of(0, 0, 0), State.span(x, 11));
        });
        cases.refused("12", "throws IndexOutOfBoundsException if there is no such span", Cases.INDEX, Edges::busy,
                Edges.each(Edges.intsOutside(0, 11), span -> x -> x.tells(span, 'r')));
        cases.refused("12", "throws IllegalArgumentException if there is nothing such", Cases.ARGUMENT, Edges::busy,
                Edges.each(Edges.charsBut("rft"), what -> x -> x.tells(0, what)));
        cases.refused("12", "no such span ahead of nothing such", Cases.INDEX, Edges::busy,
                Edges.each(Edges.charsBut("rft"), what -> x -> x.tells(12, what)));
        cases.refused("12", "no such span below 0 ahead of nothing such", Cases.INDEX, Edges::busy,
                x -> x.tells(-1, 'x'), x -> x.tells(Integer.MIN_VALUE, 'R'));
    }

    private static void fits() {
        cases.test("13", "each length of a row, each to, each span: to is at most the length", () -> {
            for (int size = 0; size <= 32; size++) {
                for (char kind : Edges.KINDS) {
                    Spanjudge x = Edges.withRow(kind, size % 4, Edges.rising(size));
                    for (int to = 0; to <= 32; to++) {
                        x.span(to % 12, size % 4, to / 2, to);
                        cases.is(kind + " " + to + " of " + size, to <= size, x.fits(kind, to % 12));
                    }
                }
            }
        });
        cases.test("13", "without numbers, behind the last place, and one farther", () -> {
            Spanjudge x = Edges.withRow('s', 2, 1, 2, 3);
            x.span(0, 2, 3, 3);
            cases.is(true, x.fits('s', 0));
            x.span(0, 2, 4, 4);
            cases.is(false, x.fits('s', 0));
        });
        cases.test("13", "as a row grows and shrinks", () -> {
            Spanjudge x = Edges.withRow('l', 1, 1, 2);
            x.span(11, 1, 0, 3);
            cases.is(false, x.fits('l', 11));
            x.append('l', 1, 3);
            cases.is(true, x.fits('l', 11));
            x.cut('l', 1, 0, 2);
            cases.is(false, x.fits('l', 11));
        });
        cases.test("13", "asking changes nothing", () -> {
            Spanjudge x = Edges.busy();
            for (int span = 0; span < 12; span++) {
                cases.is(span != 6 && span != 9 && span != 11, x.fits('i', span));
            }
            cases.is(State.of(Edges.busy()), State.of(x));
        });
        cases.noKind("13", kind -> x -> x.fits(kind, 0));
        cases.noSpan("13", (kind, span) -> x -> x.fits(kind, span));
        cases.refused("13", "no such kind ahead of no such span", Cases.ARGUMENT, Edges::busy,
                x -> x.fits('x', 12), x -> x.fits('x', -1));
    }
}
