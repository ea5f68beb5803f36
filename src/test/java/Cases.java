import java.util.List;
import java.util.Objects;
import java.util.function.BiFunction;
import java.util.function.Function;
import java.util.function.Supplier;

/** Runs cases, each with the promise and the sentence that it is a case of, and ends the test with those that fail. */
final class Cases {
    static final Class<IllegalArgumentException> ARGUMENT = IllegalArgumentException.class;
    static final Class<IndexOutOfBoundsException> INDEX = IndexOutOfBoundsException.class;
    static final Class<IllegalStateException> STATE = IllegalStateException.class;

    /** An object is good for 512 calls, and those that make it and tell its state are calls too. */
    private static final int CALLS_AT_ONCE = 200;

    interface Call {
        Object on(Spanjudge x);
    }

    private final String test;
    private String running = "";
    private boolean holds;
    private int held;
    private int failed;

    Cases(String test) {
        this.test = test;
    }

    void test(String promise, String sentence, Runnable body) {
        running = promise + ": " + sentence;
        holds = true;
        try {
            body.run();
        } catch (RuntimeException thrown) {
            complain("threw " + thrown + " at " + thrown.getStackTrace()[0]);
        }
        if (holds) {
            held++;
        } else {
            failed++;
        }
    }

    /** Of a case that fails the first complaint is enough. */
    private void complain(String what) {
        if (holds) {
            System.out.println(running + ": " + what);
        }
        holds = false;
    }

    void is(String what, Object due, Object got) {
        if (!Objects.equals(due, got)) {
            complain(what + " answered " + got + ", due is " + due);
        }
    }

    void is(Object due, Object got) {
        is("a call", due, got);
    }

    private static Object answer(Spanjudge x, Call call) {
        try {
            return call.on(x);
        } catch (RuntimeException thrown) {
            return thrown.getClass();
        }
    }

    /** Each of the calls throws just this, and all is then as in an object that was not called so. */
    void refuses(Class<? extends RuntimeException> due, Supplier<Spanjudge> maker, List<Call> calls) {
        if (calls.isEmpty()) {
            complain("there is no call");
        }
        String before = State.of(maker.get());
        for (int from = 0; from < calls.size(); from += CALLS_AT_ONCE) {
            Spanjudge x = maker.get();
            for (Call call : calls.subList(from, Math.min(from + CALLS_AT_ONCE, calls.size()))) {
                is("call " + calls.indexOf(call), due, answer(x, call));
            }
            is("the state behind refused calls", before, State.of(x));
        }
    }

    void refuses(Class<? extends RuntimeException> due, Supplier<Spanjudge> maker, Call... calls) {
        refuses(due, maker, List.of(calls));
    }

    void refused(String promise, String sentence, Class<? extends RuntimeException> due, Supplier<Spanjudge> maker,
            List<Call> calls) {
        test(promise, sentence, () -> refuses(due, maker, calls));
    }

    void refused(String promise, String sentence, Class<? extends RuntimeException> due, Supplier<Spanjudge> maker,
            Call... calls) {
        test(promise, sentence, () -> refuses(due, maker, calls));
    }

    void noKind(String promise, Function<Character, Call> call) {
        refused(promise, "throws IllegalArgumentException if there is no such kind", ARGUMENT, Edges::busy,
                Edges.each(Edges.charsBut("bsil"), call));
    }

    void noOrder(String promise, Function<Character, Call> call) {
        refused(promise, "throws IllegalArgumentException if there is no such order", ARGUMENT, Edges::busy,
                Edges.each(Edges.charsBut("su"), call));
    }

    void noQuestion(String promise, Function<Character, Call> call) {
        refused(promise, "throws IllegalArgumentException if there is nothing such", ARGUMENT, Edges::busy,
                Edges.each(Edges.charsBut("ecum"), call));
    }

    void noRow(String promise, BiFunction<Character, Integer, Call> call) {
        for (char kind : Edges.KINDS) {
            refused(promise, "throws IndexOutOfBoundsException if there is no such row, of " + kind, INDEX, Edges::busy,
                    Edges.each(Edges.intsOutside(0, 3), row -> call.apply(kind, row)));
        }
    }

    void noSpan(String promise, BiFunction<Character, Integer, Call> call) {
        for (char kind : Edges.KINDS) {
            refused(promise, "throws IndexOutOfBoundsException if there is no such span, by " + kind, INDEX, Edges::busy,
                    Edges.each(Edges.intsOutside(0, 11), span -> call.apply(kind, span)));
        }
    }

    void end() {
        System.out.println(test + ": " + (held + failed) + " cases, " + failed + " failed");
        if (failed > 0 || held == 0) {
            System.exit(1);
        }
    }
}
