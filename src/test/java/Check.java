/** What the tests share: they count what is wrong, and end with exit code 1 if anything was. */
final class Check {
    private static int wrong = 0;

    private Check() {
    }

    /** A call that may throw. */
    interface Call {
        void run();
    }

    static void same(String what, long due, long got) {
        if (due != got) {
            fail(what + ": due is " + due + ", got " + got);
        }
    }

    static void same(String what, String due, String got) {
        if (!due.equals(got)) {
            fail(what + ": due is \"" + due + "\", got \"" + got + "\"");
        }
    }

    static void same(String what, boolean due, boolean got) {
        if (due != got) {
            fail(what + ": due is " + due + ", got " + got);
        }
    }

    static void sameDouble(String what, double due, double got) {
        if (!(due == got)) {
            fail(what + ": due is " + due + ", got " + got);
        }
    }

    /** The call has to throw just this exception. */
    static void throwing(String what, Class<? extends RuntimeException> due, Call call) {
        try {
            call.run();
        } catch (RuntimeException e) {
            if (e.getClass() != due) {
                fail(what + ": due is " + due.getName() + ", got " + e.getClass().getName());
            }
            return;
        }
        fail(what + ": due is " + due.getName() + ", nothing was thrown");
    }

    /** The call has to throw just this exception, and nothing of the mill may change. */
    static void refused(String what, RiddleMill mill, Class<? extends RuntimeException> due, Call call) {
        String before = state(mill);
        throwing(what, due, call);
        same(what + " changes nothing", before, state(mill));
    }

    static void fail(String text) {
        wrong++;
        System.out.println(text);
    }

    static void end() {
        if (wrong > 0) {
            System.out.println(wrong + " wrong");
            System.exit(1);
        }
    }

    /** Feeds a text, whatever its length; returns the number of bytes of the tape. */
    static int feed(RiddleMill mill, String text) {
        int length = mill.count(9) + text.length();
        for (int i = 0; i < text.length(); i += 20) {
            int[] numbers = new int[5];
            for (int j = 0; j < 20; j++) {
                int sign = i + j < text.length() ? text.charAt(i + j) : 'X';
                numbers[j / 4] = numbers[j / 4] << 8 | sign;
            }
            mill.feed(numbers[0], numbers[1], numbers[2], numbers[3], numbers[4]);
        }
        return mill.trim(length);
    }

    /** Feeds a text and compiles it. */
    static int compile(RiddleMill mill, String text) {
        feed(mill, text);
        return mill.compile();
    }

    /** A new mill with a puzzle. */
    static RiddleMill mill(String text) {
        RiddleMill mill = new RiddleMill();
        same("compile of " + text, 0, compile(mill, text));
        return mill;
    }

    /** The text has to have this error at this place, and is no puzzle then. */
    static void error(String text, int due, int at) {
        RiddleMill mill = new RiddleMill();
        same("error of \"" + text + "\"", due, compile(mill, text));
        same("place in \"" + text + "\"", at, mill.errorAt());
        same("columns behind \"" + text + "\"", 0, mill.count(0));
        same("rules behind \"" + text + "\"", 0, mill.count(3));
    }

    /** The text has to be a puzzle, which is written like this. */
    static void reads(String text, String due) {
        RiddleMill mill = new RiddleMill();
        same("error of \"" + text + "\"", 0, compile(mill, text));
        same("place in \"" + text + "\"", -1, mill.errorAt());
        if (mill.count(0) > 0) {
            same("puzzle of \"" + text + "\"", due, written(mill));
        }
    }

    /** Writes the puzzle, and reads the paper. */
    static String written(RiddleMill mill) {
        int length = mill.write();
        same("bytes of the paper", length, mill.count(10));
        return paper(mill);
    }

    static String paper(RiddleMill mill) {
        StringBuilder text = new StringBuilder();
        for (int k = 0; k < mill.count(10); k++) {
            text.append((char) mill.byteAt(k));
        }
        return text.toString();
    }

    /** All that can be asked of a mill, as a text. */
    static String state(RiddleMill mill) {
        StringBuilder text = new StringBuilder();
        for (int what = 0; what <= 10; what++) {
            text.append(mill.count(what)).append(' ');
        }
        text.append("error ").append(mill.errorAt());
        for (int rule = 0; rule < mill.count(3); rule++) {
            text.append("\nrule ").append(ruleText(mill, rule));
        }
        int cells = mill.count(0) * mill.count(1);
        text.append("\ncells");
        for (int cell = 0; cell < cells; cell++) {
            text.append(' ').append(mill.value(cell)).append('/').append(mill.possible(cell));
        }
        for (int index = 0; index < mill.count(7); index++) {
            text.append("\nsolution ").append(solution(mill, index));
        }
        text.append("\nreasoned");
        for (int what = 0; what <= 3; what++) {
            text.append(' ').append(mill.reasoned(what));
        }
        text.append("\nhint");
        for (int what = 0; what <= 3; what++) {
            text.append(' ').append(mill.hint(what));
        }
        text.append("\ndoubt ").append(mill.doubt());
        text.append("\npaper ").append(paper(mill));
        return text.toString();
    }

    static String ruleText(RiddleMill mill, int rule) {
        StringBuilder text = new StringBuilder();
        for (int what = 0; what <= 9; what++) {
            text.append(what == 0 ? "" : " ").append(mill.rule(rule, what));
        }
        return text.toString();
    }

    /** The digits of a solution that is kept. */
    static String solution(RiddleMill mill, int index) {
        StringBuilder text = new StringBuilder();
        for (int cell = 0; cell < mill.count(0) * mill.count(1); cell++) {
            text.append(mill.solution(index, cell));
        }
        return text.toString();
    }

    /** The digits of the grid. */
    static String grid(RiddleMill mill) {
        StringBuilder text = new StringBuilder();
        for (int cell = 0; cell < mill.count(0) * mill.count(1); cell++) {
            text.append(mill.value(cell));
        }
        return text.toString();
    }

    /** Fills the cells from the first one on; 0 empties. */
    static void fill(RiddleMill mill, String digits) {
        for (int cell = 0; cell < digits.length(); cell++) {
            mill.put(cell, digits.charAt(cell) - '0');
        }
    }

    /** The sets of possible values of all cells. */
    static String sets(RiddleMill mill) {
        StringBuilder text = new StringBuilder();
        for (int cell = 0; cell < mill.count(0) * mill.count(1); cell++) {
            text.append(cell == 0 ? "" : " ").append(mill.possible(cell));
        }
        return text.toString();
    }

    /** The text of as many rules as are asked for, all alike. */
    static String repeat(String text, int times) {
        StringBuilder all = new StringBuilder();
        for (int i = 0; i < times; i++) {
            all.append(text);
        }
        return all.toString();
    }
}
