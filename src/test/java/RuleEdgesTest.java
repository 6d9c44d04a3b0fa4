import java.util.ArrayList;
import java.util.List;

/** Part 1 of the document, when rules are broken: all ways to fill the cells of rules of each kind. */
public final class RuleEdgesTest {
    private static final String[] CELLS = {" a1", " b2", " b1", " a2", " c1"};
    private static final int MOST_FILLS = 1300;

    private RuleEdgesTest() {
    }

    public static void main(String[] args) {
        testAllFills("differ");
        testAllFills("sum");
        testAllFills("product");
        testAllFills("less");
        testAllFills("up");
        testAllFills("see");
        testAllFills("odd");
        testAllFills("even");
        testAllFills("count");
        testAllFills("is");
        testAllFills("apart");
        testAllFills("same");
        testOtherCellsDoNotBreak();
        testProductsAtTheirEdges();
        testEmptyCellsReachTheSum();
        Check.end();
    }

    /** A kind of rule, with each number that makes a difference, each number of cells, and each k. */
    private static void testAllFills(String word) {
        int least = word.equals("less") ? 2 : 1;
        int most = word.equals("less") ? 2 : word.equals("is") ? 1 : 5;
        for (int size = least; size <= most; size++) {
            for (int k = 2; k <= 5; k++) {
                if (power(k + 1, size) <= MOST_FILLS) {
                    testFills(rules(word, size, k), size, k);
                }
            }
        }
    }

    private static int power(int base, int exponent) {
        int power = 1;
        for (int i = 0; i < exponent; i++) {
            power *= base;
        }
        return power;
    }

    private static List<String> rules(String word, int size, int k) {
        StringBuilder cells = new StringBuilder();
        for (int i = 0; i < size; i++) {
            cells.append(CELLS[i]);
        }
        int from = 0;
        int to = 0;
        if (word.equals("sum")) {
            to = k * size + 2;
        } else if (word.equals("see") || word.equals("apart") || word.equals("is") || word.equals("count")) {
            from = 1;
            to = word.equals("see") ? 5 : word.equals("apart") ? 4 : k;
        } else if (word.equals("product")) {
            to = 24;
        }
        List<String> rules = new ArrayList<>();
        for (int number = from; number <= to; number++) {
            if (word.equals("is")) {
                rules.add(word + cells + " " + number);
            } else if (word.equals("count")) {
                for (int times = 0; times <= 5; times++) {
                    rules.add(word + " " + number + " " + times + cells);
                }
            } else {
                rules.add(word + (from + to > 0 ? " " + number : "") + cells);
            }
        }
        return rules;
    }

    private static void testFills(List<String> rules, int size, int k) {
        String text = "grid 3 2 " + k + ";" + String.join(";", rules) + ";";
        RiddleMill mill = Check.mill(text);
        Model model = new ModelReader(text).puzzle;
        int[] cells = model.rules.get(0).cells;
        for (int fill = 0; fill < power(k + 1, size); fill++) {
            int left = fill;
            for (int cell : cells) {
                model.grid[cell] = left % (k + 1);
                mill.put(cell, left % (k + 1));
                left /= k + 1;
            }
            for (int rule = 0; rule < rules.size(); rule++) {
                int due = model.broken(model.rules.get(rule), model.grid) ? 1 : 0;
                if (due != mill.rule(rule, 9)) {
                    Check.fail(rules.get(rule) + " with the grid " + Check.grid(mill) + ": due is " + due);
                }
            }
            Check.same("broken rules of " + text, model.countBroken(), mill.count(6));
        }
    }

    private static void testOtherCellsDoNotBreak() {
        RiddleMill mill = Check.mill("grid 3 2 5;differ a1 b1;sum 3 a1 b1;product 2 a1 b1;less a1 b1;up a1 b1;"
                + "see 2 a1 b1;odd a1;even b1;count 2 1 a1 b1;is a1 1;apart 1 a1 b1;same a1;");
        Check.fill(mill, "120000");
        Check.same("none is broken", 0, mill.count(6));
        for (int cell = 2; cell < 6; cell++) {
            for (int value = 0; value <= 5; value++) {
                mill.put(cell, value);
                Check.same("none is broken by cell " + cell, 0, mill.count(6));
            }
        }
    }

    // The greatest product of five cells, one more, and one that no cells can have.
    private static void testProductsAtTheirEdges() {
        String cells = " a1 b1 c1 a2 b2";
        RiddleMill mill = Check.mill("grid 3 2 5;product 3125" + cells + ";product 3126" + cells
                + ";product 9375" + cells + ";product 0" + cells + ";product 1" + cells + ";");
        int[][] due = {{0, 0, 0, 0, 0}, {0, 1, 0, 0, 1}, {0, 1, 0, 0, 1}, {0, 1, 0, 0, 1}, {0, 1, 0, 0, 1},
            {0, 1, 1, 1, 1}};
        for (int filled = 0; filled <= 5; filled++) {
            for (int rule = 0; rule < 5; rule++) {
                Check.same("product, rule " + rule + ", filled " + filled, due[filled][rule],
                        mill.rule(rule, 9));
            }
            mill.put(filled, 5);
        }
    }

    // "1 for each empty one": the least sum; "k for each empty one": the greatest one.
    private static void testEmptyCellsReachTheSum() {
        String cells = " a1 b1 c1 a2 b2";
        for (int k = 2; k <= 5; k++) {
            int[] numbers = {4, 5, 6, 5 * k - 1, 5 * k, 5 * k + 1};
            int[] due = {1, 0, 0, 0, 0, 1};
            for (int i = 0; i < numbers.length; i++) {
                RiddleMill mill = Check.mill("grid 3 2 " + k + ";sum " + numbers[i] + cells + ";");
                Check.same("sum " + numbers[i] + " of empty cells up to " + k, due[i], mill.rule(0, 9));
            }
        }
    }
}
