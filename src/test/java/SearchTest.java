/** Promises 14 to 16: search, solution and isNeeded. */
public final class SearchTest {
    private static final Class<IndexOutOfBoundsException> OUTSIDE = IndexOutOfBoundsException.class;
    private static final Class<IllegalArgumentException> ARGUMENT = IllegalArgumentException.class;

    private SearchTest() {
    }

    public static void main(String[] args) {
        testAllSolutionsInOrder();
        testTheSearchEndsEarly();
        testFilledCells();
        testBrokenRulesDropTries();
        testSearchBeginsWithEmptyCells();
        testTheLastTries();
        testGivingUp();
        testSolutionsAreKeptTillTheNextOnes();
        testSearchRefuses();
        testSolutionRefuses();
        testNeeded();
        testNeededLooksAtTheEmptyGrid();
        testNeededChangesNothing();
        testNeededWhenASearchGivesUp();
        Check.end();
    }

    private static void testAllSolutionsInOrder() {
        RiddleMill mill = Check.mill("grid 2 2 2;");
        Check.same("all grids", 16, mill.search(30));
        Check.same("their tries", 2 + 4 + 8 + 16, mill.count(8));
        for (int index = 0; index < 16; index++) {
            StringBuilder due = new StringBuilder();
            for (int bit = 3; bit >= 0; bit--) {
                due.append(1 + (index >> bit & 1));
            }
            Check.same("solution " + index, due.toString(), Check.solution(mill, index));
        }
        mill = Check.mill("grid 3 2 3;rows;columns;less b2 b1;is a2 3;");
        Check.same("few solutions", 3, mill.search(30));
        Check.same("the first one", "123312", Check.solution(mill, 0));
        Check.same("the second one", "132321", Check.solution(mill, 1));
        Check.same("the third one", "231312", Check.solution(mill, 2));
    }

    private static void testTheSearchEndsEarly() {
        RiddleMill mill = Check.mill("grid 2 2 2;");
        Check.same("one", 1, mill.search(1));
        Check.same("tries for one", 4, mill.count(8));
        Check.same("two", 2, mill.search(2));
        Check.same("tries for two", 5, mill.count(8));
        Check.same("three", 3, mill.search(3));
        Check.same("tries for three", 7, mill.count(8));
        Check.same("just as many as there are", 16, mill.search(16));
        Check.same("tries for sixteen", 30, mill.count(8));
        mill = Check.mill("grid 5 5 5;");
        Check.same("thirty", 30, mill.search(30));
        Check.same("tries for thirty", 22 + 2 + 6 + 30, mill.count(8));
    }

    private static void testFilledCells() {
        RiddleMill mill = Check.mill("grid 2 2 2;");
        mill.put(0, 2);
        mill.put(3, 1);
        Check.same("what is left", 4, mill.search(30));
        Check.same("a filled cell is one try each time", 1 + 2 + 4 + 4, mill.count(8));
        Check.same("the first one", "2111", Check.solution(mill, 0));
        Check.same("the last one", "2221", Check.solution(mill, 3));
        Check.same("the grid stays", "2001", Check.grid(mill));
        Check.fill(mill, "2121");
        Check.same("a full grid", 1, mill.search(30));
        Check.same("its tries", 4, mill.count(8));
    }

    private static void testBrokenRulesDropTries() {
        RiddleMill mill = Check.mill("grid 2 2 3;differ a1 b1;is a1 2;");
        // a1: three tries, one is left; b1: three, two are left; then 3 and 9 for each.
        Check.same("solutions", 18, mill.search(30));
        Check.same("tries", 3 + 3 + 6 + 18, mill.count(8));
        mill.put(0, 3);
        Check.same("none", 0, mill.search(30));
        Check.same("one try", 1, mill.count(8));
        // Only rules with the cell of the try are looked at: the sum is out of reach from the
        // beginning, which is seen at its first cell.
        mill = Check.mill("grid 2 2 2;sum 9 a2 b2;");
        Check.same("no sum", 0, mill.search(1));
        Check.same("tries up to its first cell", 2 + 4 + 4 * 2, mill.count(8));
    }

    private static void testSearchBeginsWithEmptyCells() {
        // b2 is filled, but a1 is tried as if it were empty.
        RiddleMill mill = Check.mill("grid 2 2 2;differ a1 b2;");
        mill.put(3, 1);
        Check.same("solutions", 4, mill.search(30));
        Check.same("tries", 2 + 4 + 8 + 8, mill.count(8));
    }

    private static void testTheLastTries() {
        // Four cells are free, at the places 0, 5, 9 and 13; the others are filled, so that
        // the tries are 5 + 4*5 + 25 + 3*25 + 125 + 3*125 + 625 + 6*625.
        RiddleMill mill = Check.mill("grid 5 4 5;see 5 a1 a2 e2 d3 e4;");
        for (int cell = 0; cell < 20; cell++) {
            if (cell != 0 && cell != 5 && cell != 9 && cell != 13) {
                mill.put(cell, 5);
            }
        }
        Check.same("just 5000 tries", 1, mill.search(30));
        Check.same("they are counted", 5000, mill.count(8));
        Check.same("its solution", "15555255535554555555", Check.solution(mill, 0));
        // Free cells at the places 6, 10, 14 and 18: one try more.
        mill = Check.mill("grid 5 5 5;see 5 b2 a3 e3 d4 e5;");
        for (int cell = 0; cell < 25; cell++) {
            if (cell != 6 && cell != 10 && cell != 14 && cell != 18) {
                mill.put(cell, 5);
            }
        }
        Check.same("a 5001st try", -1, mill.search(30));
        Check.same("it is not made", 5000, mill.count(8));
        Check.same("none is kept", 0, mill.count(7));
        Check.same("one is found before", 1, mill.search(1));
        Check.same("one is kept", 1, mill.count(7));
    }

    private static void testGivingUp() {
        RiddleMill mill = Check.mill("grid 5 5 5;same a1 e5;sum 9 e5;");
        Check.same("it gives up", -1, mill.search(1));
        Check.same("tries", 5000, mill.count(8));
        Check.same("none", 0, mill.count(7));
        Check.refused("no solution", mill, OUTSIDE, () -> mill.solution(0, 0));
        mill.drop(1);
        Check.same("then it does not", 30, mill.search(30));
        Check.same("thirty are kept", 30, mill.count(7));
        RiddleMill other = Check.mill("grid 5 5 5;is a1 1;is b1 1;sum 10 d5 e5;");
        Check.same("ten are found", 10, other.search(10));
        other.put(24, 1);
        Check.same("it gives up then", -1, other.search(10));
        Check.same("those before are gone", 0, other.count(7));
        Check.refused("they can't be asked", other, OUTSIDE, () -> other.solution(0, 0));
    }

    private static void testSolutionsAreKeptTillTheNextOnes() {
        RiddleMill mill = Check.mill("grid 2 2 2;odd a1;");
        Check.same("eight", 8, mill.search(8));
        mill.put(0, 1);
        mill.drop(0);
        mill.clear();
        mill.look();
        mill.reason();
        mill.write();
        Check.compile(mill, "no puzzle");
        Check.same("they are kept", 8, mill.count(7));
        Check.same("the last one of them", "1222", Check.solution(mill, 7));
        Check.same("three", 3, mill.search(3));
        Check.same("three are kept", 3, mill.count(7));
        Check.refused("the fourth is gone", mill, OUTSIDE, () -> mill.solution(3, 0));
        Check.compile(mill, "grid 2 2 2;");
        Check.same("compile: they are gone", 0, mill.count(7));
        mill.search(2);
        Check.same("make", 4, mill.make(1));
        Check.same("make: they are gone", 0, mill.count(7));
        mill.search(2);
        mill.change(1);
        Check.same("change: they are gone", 0, mill.count(7));
        Check.compile(mill, "grid 2 2 2;sum 9 a1;");
        mill.search(1);
        Check.same("no solution is no give up", 0, mill.count(7));
    }

    private static void testSearchRefuses() {
        RiddleMill mill = Check.mill("grid 2 2 2;");
        mill.search(2);
        int[] wrong = {0, 31, -1, Integer.MIN_VALUE, Integer.MAX_VALUE};
        RiddleMill empty = new RiddleMill();
        for (int most : wrong) {
            Check.refused("search for " + most, mill, ARGUMENT, () -> mill.search(most));
            Check.refused("without a puzzle for " + most, empty, ARGUMENT, () -> empty.search(most));
        }
        Check.refused("without a puzzle", empty, IllegalStateException.class, () -> empty.search(30));
    }

    private static void testSolutionRefuses() {
        RiddleMill mill = Check.mill("grid 3 2 2;");
        Check.refused("none is kept", mill, OUTSIDE, () -> mill.solution(0, 0));
        mill.search(3);
        Check.same("the last value of the last one", 1, mill.solution(2, 5));
        int[] indexes = {-1, 3, 29, 30, Integer.MIN_VALUE, Integer.MAX_VALUE};
        for (int index : indexes) {
            Check.refused("solution " + index, mill, OUTSIDE, () -> mill.solution(index, 0));
        }
        int[] cells = {-1, 6, 25, Integer.MIN_VALUE, Integer.MAX_VALUE};
        for (int cell : cells) {
            Check.refused("solution 0 at " + cell, mill, OUTSIDE, () -> mill.solution(0, cell));
        }
    }

    private static void testNeeded() {
        // b1 follows of a1, and a2 of b1: the third rule is told twice, so it is not needed.
        RiddleMill mill = Check.mill("grid 2 2 2;is a1 1;differ a1 b1;differ b1 b2;differ b2 a2;differ a1 a2;");
        Check.same("the only given", true, mill.isNeeded(0));
        for (int rule = 1; rule <= 4; rule++) {
            Check.same("one of a ring, " + rule, false, mill.isNeeded(rule));
        }
        mill.drop(4);
        for (int rule = 0; rule <= 3; rule++) {
            Check.same("one of a chain, " + rule, true, mill.isNeeded(rule));
        }
        // There are two solutions even with all rules.
        RiddleMill open = Check.mill("grid 2 2 2;odd a1;odd a1;odd b1;odd a2;");
        for (int rule = 0; rule <= 3; rule++) {
            Check.same("two solutions, " + rule, true, open.isNeeded(rule));
        }
        // There is none with all rules, but just one without the last one.
        RiddleMill none = Check.mill("grid 2 2 2;is a1 1;is b1 1;is a2 1;is b2 1;even a1;");
        Check.same("no solution", true, none.isNeeded(4));
        none.drop(4);
        Check.same("a given", true, none.isNeeded(0));
        Check.compile(none, "grid 2 2 2;is a1 1;is b1 1;is a2 1;is b2 1;odd a1;");
        Check.same("a rule that tells nothing more", false, none.isNeeded(4));
        int[] wrong = {-1, 5, Integer.MIN_VALUE, Integer.MAX_VALUE};
        for (int rule : wrong) {
            Check.refused("isNeeded " + rule, none, OUTSIDE, () -> none.isNeeded(rule));
        }
    }

    private static void testNeededLooksAtTheEmptyGrid() {
        RiddleMill mill = Check.mill("grid 2 2 2;is a1 1;is b1 1;is a2 1;odd a1;");
        mill.put(3, 1);
        Check.same("b2 is open in the empty grid", true, mill.isNeeded(3));
        RiddleMill sure = Check.mill("grid 2 2 2;is a1 1;is b1 1;is a2 1;is b2 1;odd a1;");
        sure.put(0, 2);
        Check.same("a wrong grid is not looked at", false, sure.isNeeded(4));
    }

    private static void testNeededChangesNothing() {
        RiddleMill mill = Check.mill("grid 3 3 3;rows;columns;is a1 1;");
        mill.put(1, 2);
        mill.search(3);
        mill.look();
        mill.reason();
        mill.write();
        String before = Check.state(mill);
        long digest = mill.digest();
        for (int rule = 0; rule < 7; rule++) {
            mill.isNeeded(rule);
        }
        Check.same("the state", before, Check.state(mill));
        Check.same("the digest", digest, mill.digest());
    }

    private static void testNeededWhenASearchGivesUp() {
        String rows = "sum 5 a2 b2 c2 d2 e2;sum 5 a3 b3 c3 d3 e3;sum 5 a4 b4 c4 d4 e4;"
                + "sum 5 a5 b5 c5 d5 e5;";
        String columns = "same a1 a5;same b1 b5;same c1 c5;same d1 d5;same e1 e5;";
        // All cells are 1: this is found at once, but that it is all is not found in time.
        RiddleMill mill = Check.mill("grid 5 5 5;" + rows + columns + "odd a1;");
        Check.same("one is found", 1, mill.search(1));
        Check.same("no second one is found in time", -1, mill.search(2));
        Check.same("it gives up with all rules", true, mill.isNeeded(9));
        mill = Check.mill("grid 5 5 5;" + rows + columns + "odd a1;sum 5 a1 b1 c1 d1 e1;");
        Check.same("it gives up without the sum", true, mill.isNeeded(10));
        Check.same("it does not give up without odd", false, mill.isNeeded(9));
        Check.same("without two sums of the first row", false, mill.isNeeded(4));
    }
}
