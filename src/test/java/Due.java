import java.util.Objects;

/** Counts the answers that are not the due ones, and ends the test with them. */
final class Due {
    interface Call {
        Object answer();
    }

    private int looked;
    private int wrong;

    void is(String what, Object due, Object got) {
        looked++;
        if (!Objects.equals(due, got)) {
            wrong++;
            System.out.println(what + " answered " + got + ", due is " + due);
        }
    }

    void answers(String what, Object due, Call call) {
        try {
            is(what, due, call.answer());
        } catch (RuntimeException thrown) {
            is(what, due, thrown);
        }
    }

    /** Just this exception, and nothing changed by the call that throws it. */
    void refuses(String what, Class<? extends RuntimeException> due, Spanjudge object, Call call) {
        long before = object.checksum();
        Object got;
        try {
            got = call.answer();
        } catch (RuntimeException thrown) {
            got = thrown.getClass();
        }
        is(what, due, got);
        is(what + ", and the checksum then", before, object.checksum());
    }

    void argument(String what, Spanjudge object, Call call) {
        refuses(what, IllegalArgumentException.class, object, call);
    }

    void index(String what, Spanjudge object, Call call) {
        refuses(what, IndexOutOfBoundsException.class, object, call);
    }

    void state(String what, Spanjudge object, Call call) {
        refuses(what, IllegalStateException.class, object, call);
    }

    void end(String test) {
        System.out.println(test + ": " + looked + " answers looked at, " + wrong + " wrong");
        if (wrong > 0 || looked == 0) {
            System.exit(1);
        }
    }

    static Spanjudge with(char kind, int row, long... numbers) {
        Spanjudge object = new Spanjudge();
        put(object, kind, row, numbers);
        return object;
    }

    static void put(Spanjudge object, char kind, int row, long... numbers) {
        object.clear(kind, row);
        for (long number : numbers) {
            object.append(kind, row, number);
        }
    }

    /** The numbers of the characters of a text, for rows that are easier read as words. */
    static long[] letters(String text) {
        return text.chars().asLongStream().toArray();
    }

    static String numbers(Spanjudge object, char kind, int row) {
        StringBuilder text = new StringBuilder();
        for (int place = 0; place < object.length(kind, row); place++) {
            text.append(place == 0 ? "" : " ").append(object.number(kind, row, place));
        }
        return text.toString();
    }
}
