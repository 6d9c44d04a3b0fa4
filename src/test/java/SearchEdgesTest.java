/** Part 2 of the document, searching: its edges, and those that the promises 14 to 16 name. */
public final class SearchEdgesTest {
    private static final Class<IndexOutOfBoundsException> OUTSIDE = IndexOutOfBoundsException.class;
    // Where the free cells stand among the cells that have one value: see the tests.
    private static final int[] FREE_OF_5000 = {4, 8, 12, 14};
    private static final int[] FREE_OF_5005 = {5, 14, 22, 23};

    private SearchEdgesTest() {
    }

    public static void main(String[] args) {
        testFoundWithTheLastTry();
        testWouldBeFoundWithOneTryMore();
        testEndsWithTheLastTry();
        testNeededWithTheLastTry();
        testNeededBeyondTheLastTry();
        testGivesUpOnlyForAnotherTry();
        testMostThatCanBeLookedFor();
        testNoSolution();
        testWrongFilledCells();
        testTriesOfTheLatestSearch();
        testSolutionsOfEachSize();
        Check.end();
    }

    private static String name(int cell, int w) {
        return "" + (char) ('a' + cell % w) + (1 + cell / w);
    }

    private static boolean contains(int[] cells, int cell) {
        for (int other : cells) {
            if (other == cell) {
                return true;
            }
        }
        return false;
    }

    /** A grid with filled cells (5) but for some, each of which has to be the same as the last cell, 5. */
    private static RiddleMill sameAsTheLastOne(int w, int h, int[] free) {
        int last = w * h - 1;
        StringBuilder text = new StringBuilder("grid " + w + " " + h + " 5;");
        for (int cell : free) {
            text.append("same ").append(name(cell, w)).append(' ').append(name(last, w)).append(';');
        }
        text.append("is ").append(name(last, w)).append(" 5;");
        RiddleMill mill = Check.mill(text.toString());
        for (int cell = 1; cell < last; cell++) {
            if (!contains(free, cell)) {
                mill.put(cell, 5);
            }
        }
        return mill;
    }

    // With the first cell 1, the solution is the last leaf: tries are 1 for the first cell, then 4 * 1
    // and 4 * 5, 4 * 25, 4 * 125, 2 * 625 and 3125 for the last cell: 5000 together.
    private static void testFoundWithTheLastTry() {
        RiddleMill mill = sameAsTheLastOne(5, 4, new int[] {5, 9, 13, 17});
        Check.same("found", 1, mill.search(1));
        Check.same("with the last try", 5000, mill.count(8));
        Check.same("one is kept", 1, mill.count(7));
        Check.same("it", "1" + Check.repeat("5", 19), Check.solution(mill, 0));
        Check.same("no try is left for another one", -1, mill.search(2));
        Check.same("its tries", 5000, mill.count(8));
        Check.same("none is kept", 0, mill.count(7));
    }

    // 1, then 5 * 1, 9 * 5, 3 * 25, 4 * 125, 2 * 625 and 3125: 5001 together.
    private static void testWouldBeFoundWithOneTryMore() {
        RiddleMill mill = sameAsTheLastOne(5, 5, new int[] {6, 15, 18, 22});
        Check.same("not found", -1, mill.search(1));
        Check.same("tries", 5000, mill.count(8));
        Check.same("none is kept", 0, mill.count(7));
        mill.put(0, 2);
        Check.same("another value of the first cell does not help", -1, mill.search(1));
        mill.put(6, 5);
        Check.same("one free cell less does", 1, mill.search(2));
    }

    // "The search ends with the last value of the first cell": it does not give up then.
    private static void testEndsWithTheLastTry() {
        RiddleMill mill = sameAsTheLastOne(5, 4, new int[] {5, 9, 13, 17});
        mill.put(0, 3);
        Check.same("all", 1, mill.search(30));
        Check.same("all tries", 5000, mill.count(8));
        mill.drop(4);
        mill.put(19, 5);
        Check.same("all of less", 1, mill.search(30));
        Check.same("tries of less", 5000 - 3125 + 625, mill.count(8));
    }

    /** Cells of one value by rules, each free one the same as the last one; the last rule is told twice. */
    private static RiddleMill pinned(int w, int h, int[] free) {
        int last = w * h - 1;
        StringBuilder text = new StringBuilder("grid " + w + " " + h + " 5;");
        for (int cell = 0; cell <= last; cell++) {
            if (contains(free, cell)) {
                text.append("same ").append(name(cell, w)).append(' ').append(name(last, w)).append(';');
            } else {
                text.append("is ").append(name(cell, w)).append(" 3;");
            }
        }
        text.append("is ").append(name(last, w)).append(" 3;");
        return Check.mill(text.toString());
    }

    // Each cell that is gone through takes five tries: 5 * (5 * 1 + 4 * 5 + 4 * 25 + 2 * 125 + 625).
    private static void testNeededWithTheLastTry() {
        RiddleMill mill = pinned(4, 4, FREE_OF_5000);
        Check.same("two are looked for", 1, mill.search(2));
        Check.same("with all tries", 5000, mill.count(8));
        Check.same("a rule that is told twice", false, mill.isNeeded(16));
        Check.same("the other one of it", false, mill.isNeeded(15));
        Check.same("without the first one it gives up", true, mill.isNeeded(0));
    }

    // 5 * (6 * 1 + 9 * 5 + 8 * 25 + 125 + 625) is five tries more.
    private static void testNeededBeyondTheLastTry() {
        RiddleMill mill = pinned(5, 5, FREE_OF_5005);
        Check.same("two are looked for", -1, mill.search(2));
        Check.same("one is found", 1, mill.search(1));
        Check.same("a rule that is told twice", true, mill.isNeeded(25));
        Check.same("the other one of it", true, mill.isNeeded(24));
    }

    // As many as are looked for are found with few tries, though all would be far too many.
    private static void testGivesUpOnlyForAnotherTry() {
        RiddleMill mill = Check.mill("grid 5 5 5;");
        for (int most = 1; most <= 30; most++) {
            Check.same("search for " + most, most, mill.search(most));
            Check.same("kept of " + most, most, mill.count(7));
        }
    }

    private static void testMostThatCanBeLookedFor() {
        // 2 to the 5th is 32, of which 30 are kept at most.
        RiddleMill mill = Check.mill("grid 3 2 2;odd c2;");
        Check.same("thirty", 30, mill.search(30));
        Check.same("the thirtieth", "222121", Check.solution(mill, 29));
        Check.refused("no thirty-first", mill, OUTSIDE, () -> mill.solution(30, 0));
        mill.put(0, 1);
        Check.same("sixteen are left", 16, mill.search(30));
        Check.refused("no seventeenth", mill, OUTSIDE, () -> mill.solution(16, 0));
        Check.same("just one", 1, mill.search(1));
        Check.refused("no second one", mill, OUTSIDE, () -> mill.solution(1, 0));
    }

    private static void testNoSolution() {
        RiddleMill mill = Check.mill("grid 2 2 2;odd a1;even a1;");
        Check.same("none", 0, mill.search(30));
        Check.same("both values were tried", 2, mill.count(8));
        Check.same("none is kept", 0, mill.count(7));
        Check.refused("none can be asked", mill, OUTSIDE, () -> mill.solution(0, 0));
    }

    // A filled cell has its value alone, also if this breaks a rule.
    private static void testWrongFilledCells() {
        RiddleMill mill = Check.mill("grid 2 2 3;differ a1 b2;");
        mill.put(0, 2);
        mill.put(3, 2);
        Check.same("none", 0, mill.search(30));
        Check.same("the last cell is tried each time", 1 + 3 + 9 + 9, mill.count(8));
        mill.put(3, 3);
        Check.same("all others", 9, mill.search(30));
    }

    // "nothing else changes it"
    private static void testTriesOfTheLatestSearch() {
        RiddleMill mill = Check.mill("grid 2 2 2;odd a1;same a1 b1 a2 b2;");
        Check.same("no search", 0, mill.count(8));
        mill.isNeeded(0);
        mill.make(1);
        Check.same("no search() yet", 0, mill.count(8));
        Check.same("find both", 1, mill.search(2));
        int tries = mill.count(8);
        Check.same("its tries", 2 + 2 + 2 + 2, tries);
        Check.throwing("search for none", IllegalArgumentException.class, () -> mill.search(0));
        Check.throwing("search for too many", IllegalArgumentException.class, () -> mill.search(31));
        Check.same("behind what was refused", tries, mill.count(8));
        mill.isNeeded(0);
        mill.isNeeded(1);
        Check.same("behind isNeeded", tries, mill.count(8));
        mill.put(0, 1);
        mill.clear();
        mill.look();
        mill.reason();
        mill.step();
        mill.write();
        mill.change(0);
        Check.same("behind change", tries, mill.count(8));
        mill.make(77);
        Check.same("behind make", tries, mill.count(8));
        mill.drop(0);
        Check.compile(mill, "grid 2 2");
        Check.same("behind an error", tries, mill.count(8));
        Check.compile(mill, "grid 5 5 5;");
        Check.same("behind compile", tries, mill.count(8));
        mill.search(1);
        Check.same("of the latest one", 25, mill.count(8));
    }

    private static void testSolutionsOfEachSize() {
        for (int w = 2; w <= 5; w++) {
            for (int h = 2; h <= 5; h++) {
                RiddleMill mill = Check.mill("grid " + w + " " + h + " 3;");
                Check.same("two", 2, mill.search(2));
                int cells = w * h;
                Check.same("the last cell of the first one", 1, mill.solution(0, cells - 1));
                Check.same("the last cell of the second one", 2, mill.solution(1, cells - 1));
                Check.refused("behind the last cell", mill, OUTSIDE, () -> mill.solution(0, cells));
                Check.refused("ahead of the first cell", mill, OUTSIDE, () -> mill.solution(0, -1));
                Check.refused("behind the last one", mill, OUTSIDE, () -> mill.solution(2, 0));
                Check.refused("ahead of the first one", mill, OUTSIDE, () -> mill.solution(-1, 0));
            }
        }
    }
}
