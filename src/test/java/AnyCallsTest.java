/** All promises: any calls with any arguments throw what the document names, or nothing, and end. */
public final class AnyCallsTest {
    private static final String[] WORDS = {"differ", "up", "odd", "even", "same", "sum 5", "sum 9",
        "product 6", "product 0", "see 2", "apart 1", "count 2 1", "count 1 0"};
    private static final int[] FAR = {Integer.MIN_VALUE, Integer.MAX_VALUE, -1, -2, 1600, 65535, 65536, 31,
        1 << 30};
    private static final int MILLS = 400;
    private static final int CALLS = 512;

    private static long state = 512L;

    private AnyCallsTest() {
    }

    public static void main(String[] args) {
        for (int i = 0; i < MILLS; i++) {
            testCalls(i);
        }
        Check.end();
    }

    // The same numbers in each run of the tests.
    private static int number(int bound) {
        state = state * 6364136223846793005L + 1442695040888963407L;
        return (int) ((state >>> 33) % bound);
    }

    // Mostly what is around the edge of what there is.
    private static int argument(int bound) {
        int sort = number(8);
        if (sort == 0) {
            return FAR[number(FAR.length)];
        }
        return sort == 1 ? bound - 1 + number(3) : number(bound + 1);
    }

    private static void testCalls(int round) {
        RiddleMill mill = new RiddleMill();
        if (round % 8 != 0) {
            Check.compile(mill, text());
        }
        for (int call = 0; call < CALLS; call++) {
            testCall(mill);
        }
    }

    private static String text() {
        int w = 2 + number(4);
        int h = 2 + number(4);
        StringBuilder text = new StringBuilder("grid " + w + " " + h + " " + (2 + number(4)) + ";");
        for (int rule = number(8); rule > 0; rule--) {
            text.append(WORDS[number(WORDS.length)]);
            int cell = number(w * h);
            for (int size = 1 + number(4); size > 0; size--) {
                text.append(' ').append((char) ('a' + cell % w)).append(1 + cell / w);
                cell = (cell + 1) % (w * h);
            }
            text.append(';');
        }
        return text.toString();
    }

    private static void due(RiddleMill mill, String what, Class<? extends RuntimeException> due,
            Check.Call call) {
        if (due != null) {
            long before = mill.digest();
            int at = mill.errorAt();
            Check.throwing(what, due, call);
            Check.same(what + ": the digest", before, mill.digest());
            Check.same(what + ": the place of the error", at, mill.errorAt());
            return;
        }
        try {
            call.run();
        } catch (RuntimeException e) {
            Check.fail(what + ": nothing may be thrown, got " + e);
        }
    }

    private static Class<? extends RuntimeException> outside(int index, int bound) {
        return index < 0 || index >= bound ? IndexOutOfBoundsException.class : null;
    }

    private static Class<? extends RuntimeException> argument(int number, int least, int most,
            boolean hasPuzzle) {
        if (number < least || number > most) {
            return IllegalArgumentException.class;
        }
        return hasPuzzle ? null : IllegalStateException.class;
    }

    // The exception that is named first is thrown.
    private static Class<? extends RuntimeException> first(Class<? extends RuntimeException> one,
            Class<? extends RuntimeException> other) {
        return one != null ? one : other;
    }

    private static void testCall(RiddleMill mill) {
        boolean hasPuzzle = mill.count(0) > 0;
        int cells = mill.count(0) * mill.count(1);
        int rules = mill.count(3);
        int bytes = mill.count(9);
        int what = number(24);
        switch (what) {
            case 0 -> due(mill, "feed", bytes + 20 > 1600 ? IllegalStateException.class : null,
                    () -> mill.feed(number(1 << 30) * 4, number(1 << 30), -1, 0, FAR[number(FAR.length)]));
            case 1 -> {
                int n = argument(bytes);
                due(mill, "trim " + n, argument(n, 0, bytes, true), () -> mill.trim(n));
            }
            case 2 -> due(mill, "compile", null, () -> compile(mill));
            case 3 -> due(mill, "errorAt", null, () -> mill.errorAt());
            case 4 -> due(mill, "clear, look and doubt", null, () -> {
                mill.clear();
                mill.look();
                mill.doubt();
            });
            case 5 -> due(mill, "step", null, () -> mill.step());
            case 6 -> due(mill, "reason", null, () -> mill.reason());
            case 7 -> due(mill, "write", hasPuzzle ? null : IllegalStateException.class, () -> mill.write());
            default -> testCallAt(mill, what, hasPuzzle, cells, rules);
        }
    }

    private static void compile(RiddleMill mill) {
        mill.trim(0);
        Check.compile(mill, text().substring(number(30) == 0 ? 1 : 0));
    }

    private static void testCallAt(RiddleMill mill, int what, boolean hasPuzzle, int cells, int rules) {
        int told = argument(10);
        int cell = argument(cells);
        int rule = argument(rules);
        int value = argument(mill.count(2));
        int index = argument(mill.count(7));
        switch (what) {
            case 8 -> due(mill, "count " + told, outside(told, 11), () -> mill.count(told));
            case 9, 10 -> due(mill, "rule " + rule + ", " + told, first(outside(rule, rules), outside(told, 10)),
                    () -> mill.rule(rule, told));
            case 11 -> due(mill, "drop " + rule, outside(rule, rules), () -> mill.drop(rule));
            case 12 -> {
                int k = argument(mill.count(10));
                due(mill, "byteAt " + k, outside(k, mill.count(10)), () -> mill.byteAt(k));
            }
            case 13, 14 -> due(mill, "put " + cell + ", " + value,
                    first(outside(cell, cells), argument(value, 0, mill.count(2), true)),
                    () -> mill.put(cell, value));
            case 15 -> due(mill, "value " + cell, outside(cell, cells), () -> mill.value(cell));
            case 16 -> {
                int most = argument(30);
                due(mill, "search " + most, argument(most, 1, 30, hasPuzzle), () -> mill.search(most));
            }
            case 17 -> due(mill, "solution " + index + ", " + cell,
                    first(outside(index, mill.count(7)), outside(cell, cells)),
                    () -> mill.solution(index, cell));
            case 18 -> due(mill, "isNeeded " + rule, outside(rule, rules), () -> mill.isNeeded(rule));
            case 19 -> due(mill, "possible " + cell, outside(cell, cells), () -> mill.possible(cell));
            case 20 -> due(mill, "hint", outside(cell, 4), () -> mill.hint(cell));
            case 21 -> due(mill, "reasoned", outside(cell, 4), () -> mill.reasoned(cell));
            case 22 -> {
                int seed = argument(65535);
                due(mill, "make " + seed, argument(seed, 0, 65535, hasPuzzle), () -> mill.make(seed));
            }
            default -> due(mill, "change " + value, argument(value, 0, 1, hasPuzzle),
                    () -> mill.change(value));
        }
    }
}
