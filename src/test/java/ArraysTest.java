import java.util.Arrays;

/** Promises 14 to 17 beside java.util.Arrays itself, which is asked by ranges, of all four kinds. */
public final class ArraysTest {
    private static final Due due = new Due();

    /** A row of one kind, as Arrays wants it. */
    private interface Numbers {
        int length();

        int ask(char what, int from, int to, Numbers other, int otherFrom, int otherTo);

        int askWhole(char what, Numbers other);
    }

    private record Bytes(byte[] all) implements Numbers {
        public int length() {
            return all.length;
        }

        public int ask(char what, int from, int to, Numbers other, int otherFrom, int otherTo) {
            byte[] others = ((Bytes) other).all;
            switch (what) {
                case 'e':
                    return Arrays.equals(all, from, to, others, otherFrom, otherTo) ? 1 : 0;
                case 'c':
                    return Integer.signum(Arrays.compare(all, from, to, others, otherFrom, otherTo));
                case 'u':
                    return Integer.signum(Arrays.compareUnsigned(all, from, to, others, otherFrom, otherTo));
                default:
                    return Arrays.mismatch(all, from, to, others, otherFrom, otherTo);
            }
        }

        public int askWhole(char what, Numbers other) {
            byte[] others = ((Bytes) other).all;
            switch (what) {
                case 'e':
                    return Arrays.equals(all, others) ? 1 : 0;
                case 'c':
                    return Integer.signum(Arrays.compare(all, others));
                case 'u':
                    return Integer.signum(Arrays.compareUnsigned(all, others));
                default:
                    return Arrays.mismatch(all, others);
            }
        }
    }

    private record Shorts(short[] all) implements Numbers {
        public int length() {
            return all.length;
        }

        public int ask(char what, int from, int to, Numbers other, int otherFrom, int otherTo) {
            short[] others = ((Shorts) other).all;
            switch (what) {
                case 'e':
                    return Arrays.equals(all, from, to, others, otherFrom, otherTo) ? 1 : 0;
                case 'c':
                    return Integer.signum(Arrays.compare(all, from, to, others, otherFrom, otherTo));
                case 'u':
                    return Integer.signum(Arrays.compareUnsigned(all, from, to, others, otherFrom, otherTo));
                default:
                    return Arrays.mismatch(all, from, to, others, otherFrom, otherTo);
            }
        }

        public int askWhole(char what, Numbers other) {
            short[] others = ((Shorts) other).all;
            switch (what) {
                case 'e':
                    return Arrays.equals(all, others) ? 1 : 0;
                case 'c':
                    return Integer.signum(Arrays.compare(all, others));
                case 'u':
                    return Integer.signum(Arrays.compareUnsigned(all, others));
                default:
                    return Arrays.mismatch(all, others);
            }
        }
    }

    private record Ints(int[] all) implements Numbers {
        public int length() {
            return all.length;
        }

        public int ask(char what, int from, int to, Numbers other, int otherFrom, int otherTo) {
            int[] others = ((Ints) other).all;
            switch (what) {
                case 'e':
                    return Arrays.equals(all, from, to, others, otherFrom, otherTo) ? 1 : 0;
                case 'c':
                    return Integer.signum(Arrays.compare(all, from, to, others, otherFrom, otherTo));
                case 'u':
                    return Integer.signum(Arrays.compareUnsigned(all, from, to, others, otherFrom, otherTo));
                default:
                    return Arrays.mismatch(all, from, to, others, otherFrom, otherTo);
            }
        }

        public int askWhole(char what, Numbers other) {
            int[] others = ((Ints) other).all;
            switch (what) {
                case 'e':
                    return Arrays.equals(all, others) ? 1 : 0;
                case 'c':
                    return Integer.signum(Arrays.compare(all, others));
                case 'u':
                    return Integer.signum(Arrays.compareUnsigned(all, others));
                default:
                    return Arrays.mismatch(all, others);
            }
        }
    }

    private record Longs(long[] all) implements Numbers {
        public int length() {
            return all.length;
        }

        public int ask(char what, int from, int to, Numbers other, int otherFrom, int otherTo) {
            long[] others = ((Longs) other).all;
            switch (what) {
                case 'e':
                    return Arrays.equals(all, from, to, others, otherFrom, otherTo) ? 1 : 0;
                case 'c':
                    return Integer.signum(Arrays.compare(all, from, to, others, otherFrom, otherTo));
                case 'u':
                    return Integer.signum(Arrays.compareUnsigned(all, from, to, others, otherFrom, otherTo));
                default:
                    return Arrays.mismatch(all, from, to, others, otherFrom, otherTo);
            }
        }

        public int askWhole(char what, Numbers other) {
            long[] others = ((Longs) other).all;
            switch (what) {
                case 'e':
                    return Arrays.equals(all, others) ? 1 : 0;
                case 'c':
                    return Integer.signum(Arrays.compare(all, others));
                case 'u':
                    return Integer.signum(Arrays.compareUnsigned(all, others));
                default:
                    return Arrays.mismatch(all, others);
            }
        }
    }

    public static void main(String[] args) {
        for (char kind : Edges.KINDS) {
            long[][] rows = rows(kind);
            for (long[] one : rows) {
                for (long[] other : rows) {
                    wholeRows(kind, one, other);
                    ranges(kind, one, other);
                }
                refusals(kind, one);
            }
        }
        due.end("ArraysTest");
    }

    /** Rows that begin alike, whose orders differ with and without signs, one without numbers and a full one. */
    private static long[][] rows(char kind) {
        long least = Edges.least(kind);
        long most = Edges.most(kind);
        return new long[][] {{}, {-1}, {0, -1, 0, -1}, {0, -1, 0, 1}, {most, least, most}, {least, most, -1, 0},
            {1, 1, 1, 1, 1}, Edges.alike(32, 1)};
    }

    private static Numbers numbers(char kind, long[] row) {
        byte[] bytes = new byte[row.length];
        short[] shorts = new short[row.length];
        int[] ints = new int[row.length];
        for (int place = 0; place < row.length; place++) {
            bytes[place] = (byte) row[place];
            shorts[place] = (short) row[place];
            ints[place] = (int) row[place];
        }
        switch (kind) {
            case 'b':
                return new Bytes(bytes);
            case 's':
                return new Shorts(shorts);
            case 'i':
                return new Ints(ints);
            default:
                return new Longs(row);
        }
    }

    private static String name(String call, char kind, char what, long[] one, long[] other) {
        return call + " " + kind + " " + what + " of " + Arrays.toString(one) + " and " + Arrays.toString(other);
    }

    private static void wholeRows(char kind, long[] one, long[] other) {
        Spanjudge x = Edges.withTwo(kind, one, other);
        for (char what : Edges.QUESTIONS) {
            int answer = numbers(kind, one).askWhole(what, numbers(kind, other));
            due.is(name("15: asksRows", kind, what, one, other), answer, x.asksRows(kind, what, 0, 1));
            due.is(name("14: asks", kind, what, one, other), answer, x.asks(kind, what, 0, 11));
        }
    }

    /** Of a full row, the ranges at its end alone. */
    private static void ranges(char kind, long[] one, long[] other) {
        for (int from = Math.max(0, one.length - 5); from <= one.length; from++) {
            for (int to = from; to <= one.length; to++) {
                Spanjudge x = Edges.withTwo(kind, one, other);
                x.span(0, 0, from, to);
                for (int otherFrom = Math.max(0, other.length - 5); otherFrom <= other.length; otherFrom++) {
                    for (int otherTo = otherFrom; otherTo <= other.length; otherTo++) {
                        x.span(11, 1, otherFrom, otherTo);
                        range(x, kind, new long[][] {one, other}, new int[] {from, to, otherFrom, otherTo});
                    }
                }
            }
        }
    }

    private static void range(Spanjudge x, char kind, long[][] rows, int[] ends) {
        Numbers one = numbers(kind, rows[0]);
        Numbers other = numbers(kind, rows[1]);
        String at = " by ranges " + Arrays.toString(ends);
        for (char what : Edges.QUESTIONS) {
            due.is(name("14: asks", kind, what, rows[0], rows[1]) + at,
                    one.ask(what, ends[0], ends[1], other, ends[2], ends[3]), x.asks(kind, what, 0, 11));
        }
        int mismatch = one.ask('m', ends[0], ends[1], other, ends[2], ends[3]);
        int alike = mismatch < 0 ? ends[1] - ends[0] : mismatch;
        due.is(name("17: common", kind, 'm', rows[0], rows[1]) + at, alike, x.common(kind, 0, 11));
    }

    private static void refusals(char kind, long[] row) {
        int size = row.length;
        int[] edges = {Integer.MIN_VALUE, -2, -1, 0, 1, size - 1, size, size + 1, 32, 33, Integer.MAX_VALUE};
        Spanjudge x = Edges.withRow(kind, 2, row);
        Numbers numbers = numbers(kind, row);
        for (char what : Edges.QUESTIONS) {
            for (int from : edges) {
                Spanjudge y = Edges.withRow(kind, 2, row);
                for (int to : edges) {
                    boolean both = from > to && (from < 0 || to > size);
                    int thrown = thrown(numbers, what, from, to);
                    String name = "16: refused " + kind + " " + what + " of " + size + " from " + from + " to " + to;
                    due.is(name + ": Arrays throws just then", thrown != 0, from > to || from < 0 || to > size);
                    due.is(name, both ? 3 : thrown, y.refused(kind, what, 2, from, to));
                }
                due.is("16: refused changes nothing", x.checksum(), y.checksum());
            }
        }
    }

    /** ArrayIndexOutOfBoundsException is no IllegalArgumentException: one catch does not take the other's. */
    private static int thrown(Numbers numbers, char what, int from, int to) {
        try {
            numbers.ask(what, from, to, numbers, 0, numbers.length());
            return 0;
        } catch (IllegalArgumentException e) {
            return 1;
        } catch (ArrayIndexOutOfBoundsException e) {
            return 2;
        }
    }
}
