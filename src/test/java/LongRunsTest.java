/** All promises: long runs of any calls with any arguments are answered as by the plain second mill. */
public final class LongRunsTest {
    private static final int RUNS = 400;
    private static final int MOST_CALLS = 512;
    private static final int[] FAR = {Integer.MIN_VALUE, Integer.MAX_VALUE, -1, -2, 1600, 65536, 1 << 30};
    private static final String SIGNS = "abcdegs 0123456;\n\0\377";

    private static final Puzzles puzzles = new Puzzles(9L);
    private static RiddleMill mill = new RiddleMill();
    private static PlainMill plain = new PlainMill();
    private static int calls;
    private static int[] answered = new int[25];
    private static StringBuilder story = new StringBuilder();

    private LongRunsTest() {
    }

    /** A call that answers a number; a boolean counts 1 or 0. */
    private interface Call {
        double answer();
    }

    public static void main(String[] args) {
        for (int run = 0; run < RUNS; run++) {
            testRun();
        }
        // Otherwise the runs would test less than they should.
        for (int what = 0; what < answered.length; what++) {
            Check.same("call " + what + " is answered a hundred times at least", true, answered[what] >= 100);
        }
        Check.end();
    }

    private static void testRun() {
        mill = new RiddleMill();
        plain = new PlainMill();
        calls = 0;
        story = new StringBuilder();
        if (number(10) > 0) {
            feedText();
            same(2, "compile()", mill::compile, plain::compile);
        }
        // A text is fed with 82 calls at most, and each step ends with three more.
        while (calls + 90 < MOST_CALLS) {
            testStep();
            same(24, "digest()", () -> mill.digest() >>> 32, () -> plain.digest() >>> 32);
            same(24, "digest()", () -> mill.digest() & 0xffffffffL, () -> plain.digest() & 0xffffffffL);
            same(3, "errorAt()", mill::errorAt, plain::errorAt);
        }
    }

    private static int number(int bound) {
        return puzzles.number(bound);
    }

    // Mostly what is there, at times what is around its edge, or far off.
    private static int argument(int bound) {
        int sort = number(16);
        if (sort == 0) {
            return FAR[number(FAR.length)];
        }
        return sort < 3 || bound < 1 ? bound - 1 + number(3) : number(bound);
    }

    private static String outcome(Call call) {
        try {
            return Double.toString(call.answer());
        } catch (RuntimeException e) {
            return e.getClass().getName();
        }
    }

    private static void same(int what, String text, Call got, Call due) {
        calls++;
        story.append(' ').append(text);
        String outcome = outcome(due);
        answered[what] += Character.isLetter(outcome.charAt(0)) ? 0 : 1;
        Check.same("the last answer of" + story, outcome, outcome(got));
    }

    private static double flag(boolean is) {
        return is ? 1 : 0;
    }

    private static void testStep() {
        switch (number(26)) {
            case 0, 1 -> compileText();
            case 2, 3, 4, 5, 6, 7 -> testGridCall();
            case 8, 9, 10, 11, 12, 13, 14 -> testSearchCall();
            case 15, 16, 17, 18, 19 -> testReasonCall();
            case 20, 21 -> testMakeCall();
            default -> testPuzzleCall();
        }
    }

    private static void feedText() {
        StringBuilder text = new StringBuilder(puzzles.next().text());
        if (number(3) == 0) {
            int place = number(text.length());
            text.setCharAt(place, SIGNS.charAt(number(SIGNS.length())));
        }
        int length = plain.count(9) + text.length();
        while (text.length() % 20 != 0) {
            text.append((char) number(256));
        }
        for (int from = 0; from < text.length(); from += 20) {
            feed(text.substring(from, from + 20));
        }
        trim(length);
    }

    private static void feed(String twenty) {
        int[] n = new int[5];
        for (int i = 0; i < 20; i++) {
            n[i / 4] = n[i / 4] << 8 | twenty.charAt(i);
        }
        same(0, "feed(" + n[0] + ", " + n[1] + ", " + n[2] + ", " + n[3] + ", " + n[4] + ")",
                () -> mill.feed(n[0], n[1], n[2], n[3], n[4]), () -> plain.feed(n));
    }

    private static void trim(int n) {
        same(1, "trim(" + n + ")", () -> mill.trim(n), () -> plain.trim(n));
    }

    private static void compileText() {
        switch (number(6)) {
            case 0 -> feed("grid 2 3 4;odd a1 b2");
            case 1 -> trim(argument(plain.count(9)));
            case 2, 3 -> feedText();
            default -> {
                if (number(2) == 0) {
                    trim(0);
                    feedText();
                }
                same(2, "compile()", mill::compile, plain::compile);
            }
        }
    }

    private static void testGridCall() {
        int cells = plain.count(0) * plain.count(1);
        int cell = argument(cells);
        int value = argument(plain.count(2) + 1);
        switch (number(8)) {
            case 0 -> same(11, "clear()", mill::clear, plain::clear);
            case 1 -> same(10, "value(" + cell + ")", () -> mill.value(cell), () -> plain.value(cell));
            default -> same(9, "put(" + cell + ", " + value + ")", () -> mill.put(cell, value),
                    () -> plain.put(cell, value));
        }
    }

    private static void testSearchCall() {
        int most = 1 + argument(30);
        int index = argument(plain.count(7));
        int cell = argument(plain.count(0) * plain.count(1));
        int rule = argument(plain.count(3));
        switch (number(5)) {
            case 0, 1 -> same(13, "solution(" + index + ", " + cell + ")", () -> mill.solution(index, cell),
                    () -> plain.solution(index, cell));
            case 2 -> same(14, "isNeeded(" + rule + ")", () -> flag(mill.isNeeded(rule)),
                    () -> flag(plain.isNeeded(rule)));
            default -> same(12, "search(" + most + ")", () -> mill.search(most), () -> plain.search(most));
        }
    }

    private static void testReasonCall() {
        int cell = argument(plain.count(0) * plain.count(1));
        int what = argument(4);
        switch (number(6)) {
            case 0 -> same(15, "look()", mill::look, plain::look);
            case 1 -> same(16, "possible(" + cell + ")", () -> mill.possible(cell), () -> plain.possible(cell));
            case 2 -> same(17, "hint(" + what + ")", () -> mill.hint(what), () -> plain.hint(what));
            case 3 -> same(18, "step()", () -> flag(mill.step()), () -> flag(plain.step()));
            case 4 -> same(19, "reason()", mill::reason, plain::reason);
            default -> same(20, "reasoned(" + what + ")", () -> mill.reasoned(what), () -> plain.reasoned(what));
        }
    }

    private static void testMakeCall() {
        int seed = argument(65536);
        int sort = argument(2);
        switch (number(4)) {
            case 0 -> same(21, "make(" + seed + ")", () -> mill.make(seed), () -> plain.make(seed));
            case 1 -> same(23, "doubt()", mill::doubt, plain::doubt);
            default -> same(22, "change(" + sort + ")", () -> mill.change(sort), () -> plain.change(sort));
        }
    }

    private static void testPuzzleCall() {
        int what = argument(11);
        int rule = argument(plain.count(3));
        int k = argument(plain.count(10));
        switch (number(6)) {
            case 0 -> same(4, "count(" + what + ")", () -> mill.count(what), () -> plain.count(what));
            case 1, 2 -> same(5, "rule(" + rule + ", " + what + ")", () -> mill.rule(rule, what),
                    () -> plain.rule(rule, what));
            case 3 -> same(6, "drop(" + rule + ")", () -> mill.drop(rule), () -> plain.drop(rule));
            case 4 -> same(7, "write()", mill::write, plain::write);
            default -> same(8, "byteAt(" + k + ")", () -> mill.byteAt(k), () -> plain.byteAt(k));
        }
    }
}
