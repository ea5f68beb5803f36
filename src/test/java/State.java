import java.util.ArrayList;
import java.util.List;

/** All that an object tells of itself, so that two can be held beside each other. */
final class State {
    private State() {
    }

    static String of(Spanjudge x) {
        StringBuilder text = new StringBuilder();
        for (char kind : Edges.KINDS) {
            for (int row = 0; row < 4; row++) {
                text.append(kind).append(row).append(' ').append(row(x, kind, row)).append('\n');
            }
        }
        for (int span = 0; span < 12; span++) {
            text.append("span ").append(span).append(' ').append(span(x, span)).append('\n');
        }
        text.append("list ").append(list(x)).append('\n');
        return text.append("checksum ").append(x.checksum()).toString();
    }

    static List<Long> row(Spanjudge x, char kind, int row) {
        List<Long> numbers = new ArrayList<>();
        int length = x.length(kind, row);
        for (int place = 0; place < length; place++) {
            numbers.add(x.number(kind, row, place));
        }
        return numbers;
    }

    static List<Integer> span(Spanjudge x, int span) {
        return List.of(x.tells(span, 'r'), x.tells(span, 'f'), x.tells(span, 't'));
    }

    /** The list is told to end by what sorted() refuses. */
    static List<Integer> list(Spanjudge x) {
        List<Integer> spans = new ArrayList<>();
        try {
            for (int place = 0; place < 13; place++) {
                spans.add(x.sorted(place));
            }
        } catch (IndexOutOfBoundsException behindTheLast) {
            return spans;
        }
        return spans;
    }
}
