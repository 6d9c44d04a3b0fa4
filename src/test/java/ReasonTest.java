/** Promises 17 to 22 and 25: look, possible, hint, step, reason, reasoned and doubt. */
public final class ReasonTest {
    private static final Class<IndexOutOfBoundsException> OUTSIDE = IndexOutOfBoundsException.class;

    private ReasonTest() {
    }

    public static void main(String[] args) {
        testLook();
        testLookBeginsAnew();
        testPossible();
        testHint();
        testHintRefuses();
        testStep();
        testOrderOfDeductions();
        testGradeIsThatAhead();
        testEmptySets();
        testReason();
        testPasses();
        testReasonWithoutPuzzle();
        testReasonWithoutRules();
        testReasonedRefuses();
        testReasonedIsOfTheLatestReason();
        testReasoningLooksAtWholeRules();
        testGivenCells();
        testDoubt();
        Check.end();
    }

    private static void hint(RiddleMill mill, int rule, int cell, int value, int grade) {
        Check.same("hint: rule", rule, mill.hint(0));
        Check.same("hint: cell", cell, mill.hint(1));
        Check.same("hint: value", value, mill.hint(2));
        Check.same("hint: grade", grade, mill.hint(3));
    }

    private static void reasoned(RiddleMill mill, int passes, int grade, int sure, int dead) {
        Check.same("reasoned: passes", passes, mill.reasoned(0));
        Check.same("reasoned: grade", grade, mill.reasoned(1));
        Check.same("reasoned: cells with one value", sure, mill.reasoned(2));
        Check.same("reasoned: cells with none", dead, mill.reasoned(3));
    }

    private static void testLook() {
        RiddleMill mill = Check.mill("grid 3 2 4;rows;");
        Check.same("all values of an empty grid", 24, mill.look());
        Check.same("its sets", "15 15 15 15 15 15", Check.sets(mill));
        mill.put(0, 1);
        mill.put(1, 2);
        mill.put(4, 3);
        mill.put(5, 4);
        Check.same("the sets stay till then", "15 15 15 15 15 15", Check.sets(mill));
        Check.same("filled cells have one value", 12, mill.look());
        Check.same("their sets", "1 2 15 15 4 8", Check.sets(mill));
        mill.clear();
        Check.same("the sets stay again", "1 2 15 15 4 8", Check.sets(mill));
        Check.same("all values again", 24, mill.look());
        RiddleMill five = Check.mill("grid 5 5 5;");
        Check.same("five values", 125, five.look());
        Check.same("the set of five", 31, five.possible(24));
        RiddleMill two = Check.mill("grid 2 2 2;");
        Check.same("the set of two", 3, two.possible(0));
    }

    private static void testLookBeginsAnew() {
        RiddleMill mill = Check.mill("grid 2 2 3;less a1 b1;");
        mill.reason();
        reasoned(mill, 2, 2, 0, 0);
        Check.same("look", 12, mill.look());
        reasoned(mill, 0, 0, 0, 0);
        Check.same("the sets", "7 7 7 7", Check.sets(mill));
        mill.reason();
        mill.put(0, 1);
        Check.compile(mill, "grid 2 2 3;less a1 b1");
        reasoned(mill, 2, 2, 0, 0);
        Check.same("an error leaves the sets", "3 6 7 7", Check.sets(mill));
        Check.compile(mill, "grid 2 2 3;less a1 b1;");
        reasoned(mill, 0, 0, 0, 0);
        Check.same("compile looks", "7 7 7 7", Check.sets(mill));
        mill.put(2, 3);
        mill.reason();
        mill.change(1);
        reasoned(mill, 0, 0, 1, 0);
        Check.same("change looks", "7 7 7 4", Check.sets(mill));
        mill.reason();
        Check.same("make", true, mill.make(5) > 0);
        reasoned(mill, 0, 0, 0, 0);
        Check.same("make looks", "7 7 7 7", Check.sets(mill));
    }

    private static void testPossible() {
        RiddleMill mill = Check.mill("grid 2 3 5;is a1 4;");
        Check.same("all", 31, mill.possible(5));
        mill.reason();
        Check.same("the value 4", 8, mill.possible(0));
        int[] cells = {-1, 6, 25, Integer.MIN_VALUE, Integer.MAX_VALUE};
        for (int cell : cells) {
            Check.refused("possible at " + cell, mill, OUTSIDE, () -> mill.possible(cell));
        }
    }

    private static void testHint() {
        RiddleMill mill = Check.mill("grid 2 2 3;differ a1 a2;less a1 b1;");
        hint(mill, 1, 0, 3, 2);
        Check.same("a hint does nothing", "7 7 7 7", Check.sets(mill));
        mill.step();
        hint(mill, 1, 1, 1, 2);
        mill.step();
        hint(mill, -1, -1, -1, -1);
        RiddleMill free = Check.mill("grid 2 2 3;");
        hint(free, -1, -1, -1, -1);
    }

    private static void testHintRefuses() {
        RiddleMill mill = Check.mill("grid 2 2 3;odd a1;");
        RiddleMill empty = new RiddleMill();
        int[] wrong = {-1, 4, Integer.MIN_VALUE, Integer.MAX_VALUE};
        for (int what : wrong) {
            Check.refused("hint " + what, mill, OUTSIDE, () -> mill.hint(what));
            Check.refused("no puzzle: hint " + what, empty, OUTSIDE, () -> empty.hint(what));
        }
    }

    private static void testStep() {
        RiddleMill mill = Check.mill("grid 2 2 3;less a1 b1;");
        Check.same("a step", true, mill.step());
        Check.same("what it took out", "3 7 7 7", Check.sets(mill));
        Check.same("another step", true, mill.step());
        Check.same("what this took out", "3 6 7 7", Check.sets(mill));
        Check.same("no step", false, mill.step());
        Check.same("nothing more", "3 6 7 7", Check.sets(mill));
        reasoned(mill, 0, 0, 0, 0);
        mill.put(3, 2);
        Check.same("the grid is not looked at", false, mill.step());
    }

    private static void testOrderOfDeductions() {
        // Steps go by rules, then by their cells as they are listed, then by values.
        RiddleMill mill = Check.mill("grid 2 2 5;is b2 3;less b1 a1;");
        int[][] due = {{0, 3, 1, 1}, {0, 3, 2, 1}, {0, 3, 4, 1}, {0, 3, 5, 1}, {1, 1, 5, 2}, {1, 0, 1, 2}};
        for (int[] step : due) {
            hint(mill, step[0], step[1], step[2], step[3]);
            Check.same("step", true, mill.step());
        }
        Check.same("no more", false, mill.step());
        // A step goes back to the first rule, if there is something new for it.
        mill = Check.mill("grid 2 2 3;less a1 b1;less b1 a2;");
        int[][] back = {{0, 0, 3, 2}, {0, 1, 1, 2}, {1, 1, 3, 2}, {0, 0, 2, 1}, {1, 2, 1, 1}, {1, 2, 2, 1}};
        for (int[] step : back) {
            hint(mill, step[0], step[1], step[2], step[3]);
            Check.same("step", true, mill.step());
        }
        Check.same("no more of both", false, mill.step());
    }

    private static void testGradeIsThatAhead() {
        RiddleMill mill = Check.mill("grid 2 2 2;sum 4 a1 b1;");
        hint(mill, 0, 0, 1, 2);
        mill.step();
        hint(mill, 0, 1, 1, 1);
        mill.step();
        hint(mill, -1, -1, -1, -1);
        mill = Check.mill("grid 2 2 2;sum 99 a1;");
        hint(mill, 0, 0, 1, 1);
        mill.step();
        hint(mill, 0, 0, 2, 0);
        mill = Check.mill("grid 5 2 2;sum 5 a1 b1 c1 d1 e1;");
        mill.reason();
        reasoned(mill, 2, 5, 5, 0);
        mill.put(0, 1);
        mill.put(1, 1);
        mill.look();
        hint(mill, 0, 2, 2, 3);
        mill.reason();
        reasoned(mill, 2, 3, 5, 0);
        // Other cells of the grid do not count.
        mill = Check.mill("grid 5 2 2;is b1 1;");
        mill.reason();
        reasoned(mill, 2, 1, 1, 0);
    }

    private static void testEmptySets() {
        RiddleMill mill = Check.mill("grid 2 2 2;differ a1 b1;odd a2 a1;");
        Check.fill(mill, "11");
        mill.look();
        hint(mill, 0, 0, 1, 0);
        Check.same("deductions", 4, mill.reason());
        // Nothing is possible beside a cell without values, even by a rule that does not mind.
        Check.same("the sets", "0 0 0 3", Check.sets(mill));
        reasoned(mill, 2, 1, 0, 3);
    }

    private static void testReason() {
        RiddleMill mill = Check.mill("grid 2 2 2;differ a1 b1;differ a2 b2;differ a1 a2;is a1 1;");
        Check.same("deductions", 4, mill.reason());
        Check.same("the sets", "1 2 2 1", Check.sets(mill));
        reasoned(mill, 4, 1, 4, 0);
        Check.same("nothing new", 0, mill.reason());
        reasoned(mill, 1, 0, 4, 0);
        Check.same("the grid is not filled", "0000", Check.grid(mill));
    }

    private static void testPasses() {
        RiddleMill mill = Check.mill("grid 2 2 3;less a1 b1;less b1 a2;");
        Check.same("deductions", 6, mill.reason());
        Check.same("the sets", "1 2 4 7", Check.sets(mill));
        reasoned(mill, 3, 2, 3, 0);
        // The other way round, each pass but one helps the next one, too.
        mill = Check.mill("grid 2 2 4;less b2 a2;less a2 b1;less b1 a1;");
        Check.same("a chain of four", 12, mill.reason());
        Check.same("its sets", "8 4 2 1", Check.sets(mill));
        reasoned(mill, 4, 2, 4, 0);
        // A chain of all cells, told backwards: each pass goes one cell further.
        StringBuilder chain = new StringBuilder("is a1 3;");
        for (int cell = 1; cell < 25; cell++) {
            String link = "same " + name(cell - 1) + " " + name(cell) + ";";
            chain.insert(8, link);
        }
        mill = Check.mill("grid 5 5 5;" + chain);
        Check.same("a long chain", 100, mill.reason());
        reasoned(mill, 25, 1, 25, 0);
    }

    private static String name(int cell) {
        return "" + (char) ('a' + cell % 5) + (1 + cell / 5);
    }

    private static void testReasonWithoutPuzzle() {
        RiddleMill mill = new RiddleMill();
        Check.same("no deductions", 0, mill.reason());
        reasoned(mill, 1, 0, 0, 0);
        Check.same("look", 0, mill.look());
        reasoned(mill, 0, 0, 0, 0);
    }

    private static void testReasonWithoutRules() {
        RiddleMill mill = Check.mill("grid 2 2 2;");
        Check.same("no deductions", 0, mill.reason());
        reasoned(mill, 1, 0, 0, 0);
    }

    private static void testReasonedRefuses() {
        RiddleMill mill = Check.mill("grid 2 2 2;odd a1;");
        int[] wrong = {-1, 4, Integer.MIN_VALUE, Integer.MAX_VALUE};
        for (int what : wrong) {
            Check.refused("reasoned " + what, mill, OUTSIDE, () -> mill.reasoned(what));
        }
    }

    private static void testReasonedIsOfTheLatestReason() {
        RiddleMill mill = Check.mill("grid 2 2 3;less a1 b1;is a2 2;sum 5 a1 b1;");
        mill.step();
        reasoned(mill, 0, 0, 0, 0);
        mill.reason();
        int passes = mill.reasoned(0);
        Check.same("the sets", "2 4 2 7", Check.sets(mill));
        mill.put(3, 3);
        mill.clear();
        mill.search(3);
        mill.drop(2);
        mill.step();
        mill.hint(0);
        mill.isNeeded(0);
        reasoned(mill, passes, 2, 3, 0);
        mill.reason();
        reasoned(mill, 1, 0, 3, 0);
    }

    private static void testReasoningLooksAtWholeRules() {
        // Of three cells with two values each, one pair takes both: not seen cell by cell.
        RiddleMill mill = Check.mill("grid 3 2 3;odd a1 c1;differ a1 b1 c1;");
        mill.reason();
        Check.same("differ", "5 2 5 7 7 7", Check.sets(mill));
        mill = Check.mill("grid 3 2 5;product 20 a1 b1;");
        mill.reason();
        Check.same("product", "24 24 31 31 31 31", Check.sets(mill));
        mill = Check.mill("grid 3 2 5;product 0 a1 b1;");
        mill.reason();
        Check.same("no product", "0 0 31 31 31 31", Check.sets(mill));
        mill = Check.mill("grid 3 2 3;see 3 a1 b1 c1;");
        mill.reason();
        Check.same("see", "1 2 4 7 7 7", Check.sets(mill));
        mill = Check.mill("grid 3 2 5;up a1 b1 c1;");
        mill.reason();
        Check.same("up", "7 14 28 31 31 31", Check.sets(mill));
        mill = Check.mill("grid 3 2 4;apart 3 a1 b1 c1;");
        mill.reason();
        Check.same("apart", "9 9 9 15 15 15", Check.sets(mill));
        mill = Check.mill("grid 3 2 4;count 2 3 a1 b1 c1;even a2;same a2 b2;");
        mill.reason();
        Check.same("count, even and same", "2 2 2 10 10 15", Check.sets(mill));
        mill = Check.mill("grid 3 2 4;sum 11 a1 b1 c1;");
        mill.reason();
        Check.same("sum", "12 12 12 15 15 15", Check.sets(mill));
    }

    private static void testGivenCells() {
        RiddleMill mill = Check.mill("grid 2 2 2;rows;columns;");
        mill.put(0, 2);
        Check.same("what is possible", 7, mill.look());
        mill.reason();
        Check.same("the sets", "2 1 1 2", Check.sets(mill));
    }

    private static void testDoubt() {
        Check.sameDouble("without a puzzle", 0.0, new RiddleMill().doubt());
        RiddleMill mill = Check.mill("grid 3 2 3;is a1 1;");
        Check.sameDouble("all", 1.0, mill.doubt());
        mill.step();
        Check.sameDouble("all but one", 17.0 / 18.0, mill.doubt());
        mill.put(5, 1);
        Check.sameDouble("the grid is not looked at", 17.0 / 18.0, mill.doubt());
        mill.look();
        Check.sameDouble("all but two", 16.0 / 18.0, mill.doubt());
        mill = Check.mill("grid 2 2 2;product 0 a1 b1 a2 b2;");
        mill.reason();
        Check.sameDouble("none", 0.0, mill.doubt());
    }
}
