/** Promises 1 to 10. */
public final class RowsTest {
    private static final char[] KINDS = {'b', 's', 'i', 'l'};
    private static final long[] LEAST = {-128, -32768, Integer.MIN_VALUE, Long.MIN_VALUE};
    private static final long[] MOST = {127, 32767, Integer.MAX_VALUE, Long.MAX_VALUE};

    private static final Due due = new Due();

    public static void main(String[] args) {
        newObject();
        append();
        appendRefused();
        set();
        number();
        length();
        clear();
        repeat();
        reverse();
        cut();
        convert();
        convertOneByOne();
        convertRefused();
        due.end("RowsTest");
    }

    private static void newObject() {
        Spanjudge x = new Spanjudge();
        for (char kind : KINDS) {
            for (int row = 0; row < 4; row++) {
                due.is("1: length of " + kind + row, 0, x.length(kind, row));
            }
        }
        for (int span = 0; span < 12; span++) {
            due.is("1: row of span " + span, 0, x.tells(span, 'r'));
            due.is("1: from of span " + span, 0, x.tells(span, 'f'));
            due.is("1: to of span " + span, 0, x.tells(span, 't'));
        }
        due.index("1: sorted(0)", x, () -> x.sorted(0));
    }

    private static void append() {
        Spanjudge x = new Spanjudge();
        for (int kind = 0; kind < 4; kind++) {
            char name = KINDS[kind];
            due.is("2: the first one", 1, x.append(name, 3, LEAST[kind]));
            due.is("2: the second one", 2, x.append(name, 3, MOST[kind]));
            due.is("2: they stand there", LEAST[kind] + " " + MOST[kind], Due.numbers(x, name, 3));
            due.is("2: no other row of the kind has them", 0, x.length(name, 2));
        }
        for (int count = 1; count <= 32; count++) {
            due.is("2: append", count, x.append('i', 0, count));
        }
        due.state("2: the row has 32", x, () -> x.append('i', 0, 1));
    }

    private static void appendRefused() {
        Spanjudge x = new Spanjudge();
        for (int kind = 0; kind < 3; kind++) {
            char name = KINDS[kind];
            long below = LEAST[kind] - 1;
            long above = MOST[kind] + 1;
            due.argument("2: below the kind", x, () -> x.append(name, 0, below));
            due.argument("2: above the kind", x, () -> x.append(name, 0, above));
            due.argument("2: far above the kind", x, () -> x.append(name, 0, Long.MAX_VALUE));
            due.argument("2: far below the kind", x, () -> x.append(name, 0, Long.MIN_VALUE));
            due.argument("2: no number and no row", x, () -> x.append(name, 4, above));
        }
        for (char none : new char[] {'B', 'x', ' ', (char) 0, (char) 65535, 'a', 'c', 'r', 't', 'h', 'j', 'k', 'm'}) {
            due.argument("2: no kind", x, () -> x.append(none, 0, 0));
            due.argument("2: no kind and no row", x, () -> x.append(none, -1, 0));
        }
        for (int none : new int[] {-1, 4, Integer.MIN_VALUE, Integer.MAX_VALUE}) {
            due.index("2: no row", x, () -> x.append('b', none, 0));
        }
        Spanjudge full = Due.with('b', 1, new long[32]);
        due.argument("2: a full row, and no number", full, () -> full.append('b', 1, 128));
    }

    private static void set() {
        Spanjudge x = Due.with('s', 2, 5, 6, 7);
        due.is("3: what stood there", 5L, x.set('s', 2, 0, -32768));
        due.is("3: what stood there", 7L, x.set('s', 2, 2, 32767));
        due.is("3: what stood there", -32768L, x.set('s', 2, 0, 1));
        due.is("3: what stands there", "1 6 32767", Due.numbers(x, 's', 2));
        due.argument("3: no kind", x, () -> x.set('z', 9, 9, 0));
        due.argument("3: no number, no place", x, () -> x.set('s', 2, 3, 32768));
        due.argument("3: no number", x, () -> x.set('s', 2, 0, -32769));
        due.index("3: no row", x, () -> x.set('s', 4, 0, 0));
        due.index("3: no row", x, () -> x.set('s', -1, 0, 0));
        due.index("3: no place", x, () -> x.set('s', 2, 3, 0));
        due.index("3: no place", x, () -> x.set('s', 2, -1, 0));
        due.index("3: no place of a row without numbers", x, () -> x.set('s', 1, 0, 0));
    }

    private static void number() {
        Spanjudge x = Due.with('l', 0, Long.MIN_VALUE, 0, Long.MAX_VALUE);
        due.is("4: first", Long.MIN_VALUE, x.number('l', 0, 0));
        due.is("4: last", Long.MAX_VALUE, x.number('l', 0, 2));
        due.argument("4: no kind, no row", x, () -> x.number('L', 7, 0));
        due.index("4: no row", x, () -> x.number('l', 4, 0));
        due.index("4: no row", x, () -> x.number('l', -1, 0));
        due.index("4: no place", x, () -> x.number('l', 0, 3));
        due.index("4: no place", x, () -> x.number('l', 0, -1));
        due.index("4: no place", x, () -> x.number('i', 0, 0));
        x.clear('l', 0);
        due.index("4: a place that was", x, () -> x.number('l', 0, 0));
    }

    private static void length() {
        Spanjudge x = Due.with('i', 3, 1, 2, 3);
        due.is("5: length", 3, x.length('i', 3));
        due.is("5: of another kind", 0, x.length('l', 3));
        due.argument("5: no kind, no row", x, () -> x.length('I', -1));
        due.index("5: no row", x, () -> x.length('i', 4));
        due.index("5: no row", x, () -> x.length('i', -1));
    }

    private static void clear() {
        Spanjudge x = Due.with('b', 0, 1, 2);
        Due.put(x, 'b', 1, 3);
        due.is("6: how many it had", 2, x.clear('b', 0));
        due.is("6: none then", 0, x.length('b', 0));
        due.is("6: none any more", 0, x.clear('b', 0));
        due.is("6: the other row stays", "3", Due.numbers(x, 'b', 1));
        due.argument("6: no kind, no row", x, () -> x.clear('q', 4));
        due.index("6: no row", x, () -> x.clear('b', 4));
        due.index("6: no row", x, () -> x.clear('b', -1));
    }

    private static void repeat() {
        Spanjudge x = Due.with('i', 1, 4, -5, 6);
        due.is("7: once", 3, x.repeat('i', 1, 1));
        due.is("7: once", "4 -5 6", Due.numbers(x, 'i', 1));
        due.is("7: three times", 9, x.repeat('i', 1, 3));
        due.is("7: three times", "4 -5 6 4 -5 6 4 -5 6", Due.numbers(x, 'i', 1));
        due.state("7: 36", x, () -> x.repeat('i', 1, 4));
        due.is("7: no numbers", 0, x.repeat('i', 2, 8));
        Spanjudge y = Due.with('b', 0, 1, 2, 3, 4);
        due.is("7: 32", 32, y.repeat('b', 0, 8));
        due.is("7: the last one", 4L, y.number('b', 0, 31));
        due.is("7: 32 once", 32, y.repeat('b', 0, 1));
        due.state("7: 64", y, () -> y.repeat('b', 0, 2));
        due.argument("7: times 0", x, () -> x.repeat('i', 4, 0));
        due.argument("7: times 9", x, () -> x.repeat('i', 1, 9));
        due.argument("7: times below 0", x, () -> x.repeat('i', 2, -1));
        due.argument("7: times far above", x, () -> x.repeat('i', 1, Integer.MAX_VALUE));
        due.argument("7: no kind, no row", x, () -> x.repeat('?', 4, 1));
        due.index("7: no row", x, () -> x.repeat('i', 4, 8));
        due.index("7: no row", x, () -> x.repeat('i', -1, 1));
        Spanjudge z = Due.with('s', 0, new long[33 / 8 + 1]);
        due.state("7: 40", z, () -> z.repeat('s', 0, 8));
    }

    private static void reverse() {
        Spanjudge x = Due.with('l', 1, 1, 2, 3, 4);
        due.is("8: four", 4, x.reverse('l', 1));
        due.is("8: four", "4 3 2 1", Due.numbers(x, 'l', 1));
        x.append('l', 1, 9);
        due.is("8: five", 5, x.reverse('l', 1));
        due.is("8: five", "9 1 2 3 4", Due.numbers(x, 'l', 1));
        due.is("8: none", 0, x.reverse('l', 0));
        due.argument("8: no kind, no row", x, () -> x.reverse('v', -1));
        due.index("8: no row", x, () -> x.reverse('l', 4));
        due.index("8: no row", x, () -> x.reverse('l', -1));
    }

    private static void cut() {
        Spanjudge x = Due.with('s', 0, 10, 11, 12, 13, 14);
        due.is("9: the whole", 5, x.cut('s', 0, 0, 5));
        due.is("9: the whole", "10 11 12 13 14", Due.numbers(x, 's', 0));
        due.is("9: a part", 3, x.cut('s', 0, 1, 4));
        due.is("9: a part", "11 12 13", Due.numbers(x, 's', 0));
        due.index("9: to above the length", x, () -> x.cut('s', 0, 0, 4));
        due.index("9: from below 0", x, () -> x.cut('s', 0, -1, 2));
        due.index("9: to below from", x, () -> x.cut('s', 0, 2, 1));
        due.index("9: both above", x, () -> x.cut('s', 0, 4, 4));
        due.index("9: far out", x, () -> x.cut('s', 0, Integer.MIN_VALUE, Integer.MAX_VALUE));
        due.argument("9: no kind, no row", x, () -> x.cut('S', 4, 0, 0));
        due.index("9: no row", x, () -> x.cut('s', 4, 0, 0));
        due.index("9: no row", x, () -> x.cut('s', -1, 0, 0));
        due.is("9: nothing at the end", 0, x.cut('s', 0, 3, 3));
        due.is("9: nothing of nothing", 0, x.cut('s', 0, 0, 0));
        Due.put(x, 'l', 3, new long[32]);
        x.set('l', 3, 31, 8);
        due.is("9: the whole of a full row", 32, x.cut('l', 3, 0, 32));
        due.is("9: the last one of a full row", 1, x.cut('l', 3, 31, 32));
        due.is("9: the last one of a full row", "8", Due.numbers(x, 'l', 3));
    }

    private static void convert() {
        Spanjudge x = Due.with('b', 0, -128, -1, 0, 1, 127);
        Due.put(x, 'i', 2, 9, 9, 9, 9, 9, 9, 9);
        due.is("10: as it is", 5, x.convert('b', 0, 'i', 2, 'n'));
        due.is("10: as it is", "-128 -1 0 1 127", Due.numbers(x, 'i', 2));
        due.is("10: without sign", 5, x.convert('b', 0, 's', 1, 'u'));
        due.is("10: without sign", "128 255 0 1 127", Due.numbers(x, 's', 1));
        due.is("10: turned", 5, x.convert('b', 0, 'l', 3, 't'));
        due.is("10: turned", "0 127 -128 -127 -1", Due.numbers(x, 'l', 3));
        due.is("10: this row stays", "-128 -1 0 1 127", Due.numbers(x, 'b', 0));
        due.is("10: into itself", 5, x.convert('b', 0, 'b', 0, 't'));
        due.is("10: into itself", "0 127 -128 -127 -1", Due.numbers(x, 'b', 0));
        due.is("10: into itself as it is", 5, x.convert('b', 0, 'b', 0, 'n'));
        due.is("10: a row without numbers", 0, x.convert('b', 3, 'i', 2, 'u'));
        due.is("10: takes the numbers away", 0, x.length('i', 2));
    }

    private static void convertOneByOne() {
        for (int kind = 0; kind < 4; kind++) {
            char name = KINDS[kind];
            Spanjudge x = Due.with(name, 1, LEAST[kind], MOST[kind], -1, 0);
            x.convert(name, 1, name, 0, 't');
            due.is("10: turned " + name, "0 -1 " + MOST[kind] + " " + LEAST[kind], Due.numbers(x, name, 0));
        }
        Spanjudge x = Due.with('i', 0, -5, Integer.MIN_VALUE, 6);
        x.convert('i', 0, 'l', 0, 'u');
        due.is("10: i without sign", "4294967291 2147483648 6", Due.numbers(x, 'l', 0));
        Due.put(x, 's', 0, -1, -32768, 8);
        x.convert('s', 0, 'i', 1, 'u');
        due.is("10: s without sign", "65535 32768 8", Due.numbers(x, 'i', 1));
        Due.put(x, 'l', 1, 5, 1, 0, Long.MAX_VALUE);
        x.convert('l', 1, 'l', 2, 'u');
        due.is("10: l without sign", "5 1 0 " + Long.MAX_VALUE, Due.numbers(x, 'l', 2));
    }

    private static void convertRefused() {
        Spanjudge x = Due.with('l', 0, 1, -1);
        Due.put(x, 'i', 0, 1, 128);
        Due.put(x, 's', 0, 1, -129);
        Due.put(x, 'b', 0, 1, -1);
        Due.put(x, 'b', 1, 7, 8, 9);
        for (char other : KINDS) {
            due.state("10: l without sign into " + other, x, () -> x.convert('l', 0, other, 1, 'u'));
        }
        due.state("10: l without sign into itself", x, () -> x.convert('l', 0, 'l', 0, 'u'));
        Due.put(x, 'i', 1, 128, 1);
        due.state("10: the first one is no byte", x, () -> x.convert('i', 1, 'b', 1, 'n'));
        due.state("10: 128 is no byte", x, () -> x.convert('i', 0, 'b', 1, 'n'));
        due.state("10: -129 is no byte", x, () -> x.convert('s', 0, 'b', 1, 'n'));
        due.state("10: 255 is no byte", x, () -> x.convert('b', 0, 'b', 1, 'u'));
        due.state("10: a turned s is no byte", x, () -> x.convert('s', 0, 'b', 1, 't'));
        due.state("10: a turned l is no i", x, () -> x.convert('l', 0, 'i', 1, 't'));
        due.argument("10: no kind, no row", x, () -> x.convert('x', 4, 'b', 4, 'n'));
        due.argument("10: no other kind, no row", x, () -> x.convert('l', 0, 'x', 4, 'n'));
        due.argument("10: no how, no row", x, () -> x.convert('l', 4, 'b', 0, 's'));
        due.argument("10: no how", x, () -> x.convert('l', 0, 'b', 0, 'v'));
        due.index("10: no row", x, () -> x.convert('l', 4, 'b', 0, 'n'));
        due.index("10: no row", x, () -> x.convert('l', -1, 'b', 0, 'n'));
        due.index("10: no other row", x, () -> x.convert('l', 0, 'b', 4, 'u'));
        due.index("10: no other row", x, () -> x.convert('l', 0, 'b', -1, 'n'));
    }
}
