/** Promises 11 to 13: put, value and clear. */
public final class GridTest {
    private static final Class<IndexOutOfBoundsException> OUTSIDE = IndexOutOfBoundsException.class;
    private static final Class<IllegalArgumentException> ARGUMENT = IllegalArgumentException.class;

    private GridTest() {
    }

    public static void main(String[] args) {
        testPut();
        testPutLeavesTheRest();
        testPutRefuses();
        testValue();
        testClear();
        Check.end();
    }

    private static void testPut() {
        RiddleMill mill = Check.mill("grid 3 2 4;");
        Check.same("put into an empty cell", 0, mill.put(5, 4));
        Check.same("put another value", 4, mill.put(5, 1));
        Check.same("put the same value", 1, mill.put(5, 1));
        Check.same("empty the cell", 1, mill.put(5, 0));
        Check.same("empty an empty cell", 0, mill.put(5, 0));
        mill.put(0, 2);
        mill.put(4, 3);
        Check.same("the grid", "200030", Check.grid(mill));
        Check.same("filled cells", 2, mill.count(5));
    }

    private static void testPutLeavesTheRest() {
        RiddleMill mill = Check.mill("grid 2 2 2;odd a1;");
        mill.search(2);
        mill.reason();
        String sets = Check.sets(mill);
        mill.put(0, 2);
        Check.same("sets stay", sets, Check.sets(mill));
        Check.same("solutions stay", 2, mill.count(7));
        Check.same("passes stay", 2, mill.reasoned(0));
        Check.same("a broken rule can be put", 1, mill.count(6));
    }

    private static void testPutRefuses() {
        RiddleMill mill = Check.mill("grid 3 2 4;");
        mill.put(0, 3);
        int[] cells = {-1, 6, 25, Integer.MIN_VALUE, Integer.MAX_VALUE};
        for (int cell : cells) {
            Check.refused("put at " + cell, mill, OUTSIDE, () -> mill.put(cell, 1));
            Check.refused("put at " + cell + " of no value", mill, OUTSIDE, () -> mill.put(cell, 9));
        }
        int[] values = {-1, 5, Integer.MIN_VALUE, Integer.MAX_VALUE};
        for (int value : values) {
            Check.refused("put of " + value, mill, ARGUMENT, () -> mill.put(0, value));
        }
        RiddleMill empty = new RiddleMill();
        Check.refused("put without a puzzle", empty, OUTSIDE, () -> empty.put(0, 0));
    }

    private static void testValue() {
        RiddleMill mill = Check.mill("grid 2 5 5;");
        mill.put(9, 5);
        Check.same("an empty cell", 0, mill.value(0));
        Check.same("the last cell", 5, mill.value(9));
        int[] cells = {-1, 10, 25, Integer.MIN_VALUE, Integer.MAX_VALUE};
        for (int cell : cells) {
            Check.refused("value at " + cell, mill, OUTSIDE, () -> mill.value(cell));
        }
    }

    private static void testClear() {
        RiddleMill mill = Check.mill("grid 5 5 5;");
        Check.same("clear of an empty grid", 0, mill.clear());
        mill.put(0, 1);
        mill.put(12, 2);
        mill.put(24, 5);
        mill.look();
        mill.search(1);
        String sets = Check.sets(mill);
        Check.same("clear", 3, mill.clear());
        Check.same("no filled cells", 0, mill.count(5));
        Check.same("the grid", Check.repeat("0", 25), Check.grid(mill));
        Check.same("sets stay", sets, Check.sets(mill));
        Check.same("solutions stay", 1, mill.count(7));
        Check.same("clear once more", 0, mill.clear());
    }
}
