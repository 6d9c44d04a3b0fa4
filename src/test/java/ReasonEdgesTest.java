import java.util.ArrayList;
import java.util.List;

/** Part 3 of the document, reasoning: its edges, and those that the promises 17 to 22 and 25 name. */
public final class ReasonEdgesTest {
    private static final String[] CELLS = {" a1", " b1", " a2"};

    private ReasonEdgesTest() {
    }

    public static void main(String[] args) {
        testAllSetsOfOneCell();
        testAllSetsOfTwoCells();
        testAllSetsOfThreeCells();
        testSetsOfEachSize();
        testFullAndEmptyGrid();
        testReasonedTellsWhatIsNow();
        testDeductionsAreDoneAtOnce();
        testTheLastPassDoesNothing();
        testAllValuesAreTakenOut();
        testGradesFromNoneToFive();
        testGreatestGrade();
        testRulesOfOneCell();
        testNoDeductionWhereSetsAreEmpty();
        testReasonedIsGoneBehindNewPuzzles();
        testReasonedStaysBehindWhatFails();
        Check.end();
    }

    private static List<String> rules(String cells, int size, int k) {
        List<String> rules = new ArrayList<>();
        String[] plain = {"differ", "up", "odd", "even", "same"};
        for (String word : plain) {
            rules.add(word + cells);
        }
        if (size == 2) {
            rules.add("less" + cells);
        }
        for (int number = 0; number <= k * size + 1; number++) {
            rules.add("sum " + number + cells);
            rules.add("product " + number + cells);
        }
        for (int number = 1; number <= 5; number++) {
            rules.add("see " + number + cells);
            rules.add("apart " + Math.min(4, number) + cells);
        }
        for (int value = 1; value <= k; value++) {
            for (int times = 0; times <= size + 1; times++) {
                rules.add("count " + value + " " + times + cells);
            }
            if (size == 1) {
                rules.add("is" + cells + " " + value);
            }
        }
        return rules;
    }

    /** Rules that take values out, so that all sets are had, and behind them the rule to be tested. */
    private static void testAllSets(int size, int k) {
        StringBuilder cells = new StringBuilder();
        for (int i = 0; i < size; i++) {
            cells.append(CELLS[i]);
        }
        for (String rule : rules(cells.toString(), size, k)) {
            for (int taken = 0; taken < 1 << size * k; taken++) {
                StringBuilder text = new StringBuilder("grid 2 2 " + k + ";");
                for (int bit = 0; bit < size * k; bit++) {
                    if ((taken >> bit & 1) == 1) {
                        text.append("count ").append(1 + bit % k).append(" 0");
                        text.append(CELLS[bit / k]).append(';');
                    }
                }
                testSteps(text.append(rule).append(';').toString());
            }
        }
    }

    private static void testSteps(String text) {
        RiddleMill mill = Check.mill(text);
        Model model = new ModelReader(text).puzzle;
        for (int step = 0; step <= 20; step++) {
            Model.Deduction due = model.hint();
            boolean isDue = due.rule() == mill.hint(0) && due.cell() == mill.hint(1)
                    && due.value() == mill.hint(2) && due.grade() == mill.hint(3);
            Check.same(text + " step " + step + ": the hint is " + due, true, isDue);
            if (due.rule() < 0 || !isDue) {
                break;
            }
            model.step();
            mill.step();
        }
        for (int cell = 0; cell < 4; cell++) {
            Check.same(text + " set of " + cell, model.sets[cell], mill.possible(cell));
        }
        mill.look();
        model.look();
        Check.same(text + " deductions", model.reason(), mill.reason());
        Check.same(text + " passes", model.passes, mill.reasoned(0));
        Check.same(text + " greatest grade", model.greatestGrade, mill.reasoned(1));
    }

    private static void testAllSetsOfOneCell() {
        testAllSets(1, 2);
        testAllSets(1, 5);
    }

    private static void testAllSetsOfTwoCells() {
        testAllSets(2, 2);
        testAllSets(2, 3);
        testAllSets(2, 4);
    }

    private static void testAllSetsOfThreeCells() {
        testAllSets(3, 2);
        testAllSets(3, 3);
    }

    private static void testSetsOfEachSize() {
        for (int w = 2; w <= 5; w++) {
            for (int h = 2; h <= 5; h++) {
                for (int k = 2; k <= 5; k++) {
                    RiddleMill mill = Check.mill("grid " + w + " " + h + " " + k + ";");
                    int cells = w * h;
                    Check.same("all values", cells * k, mill.look());
                    Check.same("the set of the last cell", (1 << k) - 1, mill.possible(cells - 1));
                    Check.refused("behind the last cell", mill, IndexOutOfBoundsException.class,
                            () -> mill.possible(cells));
                    for (int value = 1; value <= k; value++) {
                        mill.put(cells - 1, value);
                        Check.same("one cell is filled", cells * k - k + 1, mill.look());
                        Check.same("its set", 1 << value - 1, mill.possible(cells - 1));
                        double due = (cells * k - k + 1) / (double) (cells * k);
                        Check.sameDouble("the doubt", due, mill.doubt());
                    }
                }
            }
        }
    }

    private static void testFullAndEmptyGrid() {
        RiddleMill mill = Check.mill("grid 5 5 5;");
        Check.fill(mill, "1234512345123451234512345");
        Check.same("a full grid", 25, mill.look());
        Check.same("cells with one value", 25, mill.reasoned(2));
        Check.sameDouble("the doubt", 0.2, mill.doubt());
        mill.clear();
        Check.same("cells with one value till look", 25, mill.reasoned(2));
        Check.same("an empty grid", 125, mill.look());
        Check.same("no cells with one value", 0, mill.reasoned(2));
        Check.sameDouble("the doubt then", 1.0, mill.doubt());
    }

    // 2 and 3 are told of the sets as they are, without a reason(), too.
    private static void testReasonedTellsWhatIsNow() {
        RiddleMill mill = Check.mill("grid 2 2 2;odd a1;even b1;is a2 1;is a2 2;");
        int[][] due = {{0, 0}, {1, 0}, {2, 0}, {3, 0}, {2, 1}};
        for (int step = 0; step < due.length; step++) {
            Check.same("cells with one value, step " + step, due[step][0], mill.reasoned(2));
            Check.same("cells with none, step " + step, due[step][1], mill.reasoned(3));
            Check.same("passes, step " + step, 0, mill.reasoned(0));
            Check.same("grade, step " + step, 0, mill.reasoned(1));
            Check.same("step " + step, step < due.length - 1, mill.step());
        }
        mill.look();
        Check.same("none behind look", 0, mill.reasoned(2) + mill.reasoned(3));
    }

    private static void testDeductionsAreDoneAtOnce() {
        // In one pass each rule sees what the rules ahead of it took out, and each cell of a rule
        // what was taken out of the cells ahead of it.
        RiddleMill mill = Check.mill("grid 2 2 4;is a1 4;same a1 b1;same b1 b2;");
        Check.same("all in one pass", 9, mill.reason());
        Check.same("a pass, and one that does nothing", 2, mill.reasoned(0));
        // a1 loses the 2, so it has one value when b1 loses the 1.
        mill = Check.mill("grid 2 2 2;up a1 b1;");
        Check.same("the first one: grade", 2, mill.hint(3));
        mill.step();
        Check.same("the second one: grade", 1, mill.hint(3));
        mill.step();
        Check.same("no third one", -1, mill.hint(3));
    }

    private static void testTheLastPassDoesNothing() {
        RiddleMill mill = Check.mill("grid 2 2 3;differ a1 b1;");
        Check.same("nothing to do", 0, mill.reason());
        Check.same("one pass", 1, mill.reasoned(0));
        Check.same("no grade", 0, mill.reasoned(1));
        mill = Check.mill("grid 2 2 3;odd a1;");
        Check.same("one deduction", 1, mill.reason());
        Check.same("two passes", 2, mill.reasoned(0));
        Check.same("nothing more", 0, mill.reason());
        Check.same("one pass then", 1, mill.reasoned(0));
    }

    // The most deductions that there can be: each value of each cell.
    private static void testAllValuesAreTakenOut() {
        StringBuilder text = new StringBuilder("grid 5 5 5;");
        for (int row = 1; row <= 5; row++) {
            text.append("sum 0");
            for (char column = 'a'; column <= 'e'; column++) {
                text.append(' ').append(column).append(row);
            }
            text.append(';');
        }
        RiddleMill mill = Check.mill(text.toString());
        Check.same("all values", 125, mill.reason());
        Check.same("two passes", 2, mill.reasoned(0));
        Check.same("five cells had more than one value", 5, mill.reasoned(1));
        Check.same("no cells with one value", 0, mill.reasoned(2));
        Check.same("all cells have none", 25, mill.reasoned(3));
        Check.sameDouble("no value is possible", 0.0, mill.doubt());
        Check.same("no hint", -1, mill.hint(0));
        Check.same("no step", false, mill.step());
        Check.same("nothing more", 0, mill.reason());
        Check.same("all values again", 125, mill.look());
    }

    // "the number of cells of the rule whose sets have more than one value then (ahead of it)"
    private static void testGradesFromNoneToFive() {
        RiddleMill mill = Check.mill("grid 5 2 2;sum 10 a1 b1 c1 d1 e1;");
        for (int grade = 5; grade >= 1; grade--) {
            Check.same("the cell", 5 - grade, mill.hint(1));
            Check.same("the grade", grade, mill.hint(3));
            Check.same("step", true, mill.step());
        }
        Check.same("no more", false, mill.step());
        mill = Check.mill("grid 5 2 2;even a1;odd a1;");
        mill.step();
        Check.same("the last value: rule", 1, mill.hint(0));
        Check.same("the last value: grade", 0, mill.hint(3));
        mill.step();
        Check.same("the set is empty", 0, mill.possible(0));
    }

    private static void testGreatestGrade() {
        // Grades 1, then 3, then 2 and 1.
        RiddleMill mill = Check.mill("grid 3 2 2;is a2 1;sum 6 a1 b1 c1;");
        Check.same("deductions", 4, mill.reason());
        Check.same("the greatest one", 3, mill.reasoned(1));
        mill.look();
        mill.step();
        mill.step();
        Check.same("the last two", 2, mill.reason());
        Check.same("the greatest one of them", 2, mill.reasoned(1));
        // Steps are not of reason().
        mill.look();
        mill.step();
        Check.same("none of reason()", 0, mill.reasoned(1));
    }

    // There are no other cells: the values that the rule itself allows are possible.
    private static void testRulesOfOneCell() {
        String[] rules = {"differ a1", "sum 3 a1", "product 4 a1", "up a1", "see 1 a1", "see 2 a1", "odd a1",
            "even a1", "count 5 1 a1", "count 5 0 a1", "count 5 2 a1", "is a1 2", "apart 4 a1", "same a1"};
        int[] due = {31, 4, 8, 31, 31, 0, 21, 10, 16, 15, 0, 2, 31, 31};
        for (int i = 0; i < rules.length; i++) {
            RiddleMill mill = Check.mill("grid 2 2 5;" + rules[i] + ";");
            mill.reason();
            Check.same("set by " + rules[i], due[i], mill.possible(0));
        }
    }

    // If another cell of the rule has no values, none of this cell is possible by the rule.
    private static void testNoDeductionWhereSetsAreEmpty() {
        RiddleMill mill = Check.mill("grid 2 2 3;sum 9 a1;differ a1 b1;");
        mill.reason();
        Check.same("the cell without values", 0, mill.possible(0));
        Check.same("the other one", 0, mill.possible(1));
        Check.same("no hint", -1, mill.hint(2));
        mill = Check.mill("grid 2 2 3;differ a1 b1;sum 9 a1;");
        Check.same("deductions", 6, mill.reason());
        Check.same("three passes", 3, mill.reasoned(0));
    }

    private static RiddleMill reasonedMill() {
        RiddleMill mill = Check.mill("grid 2 2 3;less a1 b1;");
        mill.reason();
        Check.same("passes", 2, mill.reasoned(0));
        Check.same("grade", 2, mill.reasoned(1));
        return mill;
    }

    private static void none(String what, RiddleMill mill) {
        Check.same("passes behind " + what, 0, mill.reasoned(0));
        Check.same("grade behind " + what, 0, mill.reasoned(1));
    }

    private static void testReasonedIsGoneBehindNewPuzzles() {
        RiddleMill mill = reasonedMill();
        mill.look();
        none("look", mill);
        mill = reasonedMill();
        Check.compile(mill, "grid 2 2 3;less a1 b1;");
        none("compile", mill);
        mill = reasonedMill();
        mill.make(5);
        none("make", mill);
        mill = reasonedMill();
        mill.change(0);
        none("turning", mill);
        mill = reasonedMill();
        mill.change(1);
        none("mirroring", mill);
    }

    private static void testReasonedStaysBehindWhatFails() {
        RiddleMill mill = Check.mill("grid 2 2 3;less a1 b1;sum 99 b2;");
        Check.same("deductions", 5, mill.reason());
        String before = Check.sets(mill);
        Check.compile(mill, "grid 2 2 3");
        Check.same("make without a solution", -1, mill.make(5));
        Check.throwing("change", IllegalArgumentException.class, () -> mill.change(2));
        Check.throwing("make", IllegalArgumentException.class, () -> mill.make(65536));
        Check.same("passes", 2, mill.reasoned(0));
        Check.same("grade", 2, mill.reasoned(1));
        Check.same("cells with none", 1, mill.reasoned(3));
        Check.same("the sets", before, Check.sets(mill));
    }
}
