/** Promises 6 to 10: count, rule, drop, write and byteAt, and when rules are broken. */
public final class RuleTest {
    private static final Class<IndexOutOfBoundsException> OUTSIDE = IndexOutOfBoundsException.class;

    private RuleTest() {
    }

    public static void main(String[] args) {
        testCount();
        testCountRefuses();
        testRuleTellsItsParts();
        testRowsAndColumns();
        testRuleRefuses();
        testDiffer();
        testSum();
        testProduct();
        testLess();
        testUp();
        testSee();
        testOddAndEven();
        testCountRule();
        testIs();
        testApart();
        testSame();
        testDrop();
        testWrite();
        testByteAt();
        testTheLongestPaper();
        Check.end();
    }

    private static void testCount() {
        RiddleMill mill = Check.mill("grid 2 3 4;rows;is a1 1;is b3 4;less a1 b1;odd a2 b2;");
        int[] due = {2, 3, 4, 7, 2, 0, 0, 0, 0, 0, 0};
        for (int what = 0; what <= 10; what++) {
            Check.same("count " + what, due[what], mill.count(what));
        }
        mill.put(0, 2);
        mill.put(1, 2);
        mill.put(3, 4);
        Check.same("filled cells", 3, mill.count(5));
        // The first row, is a1 1, less a1 b1, and odd.
        Check.same("broken rules", 4, mill.count(6));
        mill.clear();
        mill.put(0, 1);
        Check.same("solutions", 2, mill.search(2));
        Check.same("solutions that are kept", 2, mill.count(7));
        Check.same("tries", true, mill.count(8) >= 7);
        mill.feed(0, 0, 0, 0, 0);
        Check.same("bytes of the tape", 20, mill.count(9));
        int bytes = mill.write();
        Check.same("bytes of the paper", bytes, mill.count(10));
    }

    private static void testCountRefuses() {
        RiddleMill mill = Check.mill("grid 2 2 2;");
        int[] wrong = {-1, 11, Integer.MIN_VALUE, Integer.MAX_VALUE};
        for (int what : wrong) {
            Check.refused("count " + what, mill, OUTSIDE, () -> mill.count(what));
        }
    }

    private static void testRuleTellsItsParts() {
        RiddleMill mill = Check.mill("grid 5 5 5;differ a1 b2;sum 12 e5 a1;product 60 c1 c2 c3 c4 c5;"
                + "less b1 a1;up a2;see 4 a3 b3;odd a4;even b4;count 3 2 a5 b5 c5;is d4 5;"
                + "apart 2 e1 e2;same a1 e5 c3 d3;");
        String[] due = {
            "0 0 0 2 0 6 -1 -1 -1 0",
            "1 12 0 2 24 0 -1 -1 -1 1",
            "2 60 0 5 2 7 12 17 22 0",
            "3 0 0 2 1 0 -1 -1 -1 0",
            "4 0 0 1 5 -1 -1 -1 -1 0",
            "5 4 0 2 10 11 -1 -1 -1 0",
            "6 0 0 1 15 -1 -1 -1 -1 0",
            "7 0 0 1 16 -1 -1 -1 -1 0",
            "8 3 2 3 20 21 22 -1 -1 0",
            "9 5 0 1 18 -1 -1 -1 -1 0",
            "10 2 0 2 4 9 -1 -1 -1 0",
            "11 0 0 4 0 24 12 13 -1 0"};
        Check.same("rules", due.length, mill.count(3));
        for (int rule = 0; rule < due.length; rule++) {
            Check.same("rule " + rule, due[rule], Check.ruleText(mill, rule));
        }
        // A sum of 12 can't be had of two cells, even if both are empty.
        Check.same("a broken one", 1, mill.count(6));
    }

    private static void testRowsAndColumns() {
        RiddleMill mill = Check.mill("grid 3 2 4;columns;odd a1;rows;");
        String[] due = {"0 0 0 2 0 3 -1 -1 -1 0", "0 0 0 2 1 4 -1 -1 -1 0", "0 0 0 2 2 5 -1 -1 -1 0",
            "6 0 0 1 0 -1 -1 -1 -1 0", "0 0 0 3 0 1 2 -1 -1 0", "0 0 0 3 3 4 5 -1 -1 0"};
        Check.same("rules", 6, mill.count(3));
        for (int rule = 0; rule < due.length; rule++) {
            Check.same("rule " + rule, due[rule], Check.ruleText(mill, rule));
        }
    }

    private static void testRuleRefuses() {
        RiddleMill mill = Check.mill("grid 2 2 2;odd a1;even b1;");
        int[] wrong = {-1, 2, 64, 65, Integer.MIN_VALUE, Integer.MAX_VALUE};
        for (int rule : wrong) {
            Check.refused("rule " + rule, mill, OUTSIDE, () -> mill.rule(rule, 0));
        }
        int[] wrongParts = {-1, 10, Integer.MIN_VALUE, Integer.MAX_VALUE};
        for (int what : wrongParts) {
            Check.refused("rule 1, " + what, mill, OUTSIDE, () -> mill.rule(1, what));
        }
    }

    /** Whether a rule is broken by the values of the cells of the first row, 0 for empty ones. */
    private static void broken(String rule, int highest, String digits, boolean due) {
        RiddleMill mill = Check.mill("grid 5 2 " + highest + ";" + rule + ";");
        Check.fill(mill, digits);
        String what = rule + " by " + digits;
        Check.same(what + " is broken", due ? 1 : 0, mill.rule(0, 9));
        Check.same(what + " is counted as broken", due ? 1 : 0, mill.count(6));
    }

    private static void testDiffer() {
        String rule = "differ a1 b1 c1";
        broken(rule, 5, "000", false);
        broken(rule, 5, "120", false);
        broken(rule, 5, "123", false);
        broken(rule, 5, "110", true);
        broken(rule, 5, "202", true);
        broken(rule, 5, "033", true);
        broken(rule, 2, "000", false);
        broken("differ a1", 2, "1", false);
        broken(rule, 5, "1021", false);
    }

    private static void testSum() {
        broken("sum 3 a1 b1 c1", 5, "000", false);
        broken("sum 2 a1 b1 c1", 5, "000", true);
        broken("sum 15 a1 b1 c1", 5, "000", false);
        broken("sum 16 a1 b1 c1", 5, "000", true);
        broken("sum 12 a1 b1 c1", 4, "000", false);
        broken("sum 13 a1 b1 c1", 4, "000", true);
        broken("sum 6 a1 b1 c1", 5, "400", false);
        broken("sum 6 a1 b1 c1", 5, "500", true);
        broken("sum 11 a1 b1 c1", 5, "100", false);
        broken("sum 12 a1 b1 c1", 5, "100", true);
        broken("sum 6 a1 b1 c1", 5, "123", false);
        broken("sum 6 a1 b1 c1", 5, "122", true);
        broken("sum 6 a1 b1 c1", 5, "124", true);
        broken("sum 0 a1", 5, "0", true);
        broken("sum 1 a1", 5, "0", false);
    }

    private static void testProduct() {
        broken("product 12 a1 b1 c1", 5, "000", false);
        broken("product 12 a1 b1 c1", 5, "340", false);
        broken("product 12 a1 b1 c1", 5, "050", true);
        broken("product 12 a1 b1 c1", 5, "330", true);
        broken("product 12 a1 b1 c1", 5, "341", false);
        broken("product 12 a1 b1 c1", 5, "321", true);
        broken("product 12 a1 b1 c1", 5, "223", false);
        // An empty cell is enough, though no value for it can make it hold.
        broken("product 12 a1 b1 c1", 5, "110", false);
        broken("product 9999 a1", 5, "0", false);
        broken("product 9999 a1", 5, "3", true);
        broken("product 9999 a1", 5, "2", true);
        broken("product 0 a1 b1", 5, "50", false);
        broken("product 0 a1 b1", 5, "55", true);
    }

    private static void testLess() {
        broken("less a1 b1", 5, "00", false);
        broken("less a1 b1", 5, "50", false);
        broken("less a1 b1", 5, "01", false);
        broken("less a1 b1", 5, "12", false);
        broken("less a1 b1", 5, "22", true);
        broken("less a1 b1", 5, "32", true);
        broken("less b1 a1", 5, "32", false);
    }

    private static void testUp() {
        String rule = "up a1 b1 c1 d1";
        broken(rule, 5, "0000", false);
        broken(rule, 5, "1345", false);
        broken(rule, 5, "1335", true);
        broken(rule, 5, "1325", true);
        broken(rule, 5, "2030", true);
        broken(rule, 5, "2040", false);
        broken(rule, 5, "1003", true);
        broken(rule, 5, "1004", false);
        // There is no room ahead of the 1, and none behind the 5, but only filled cells count.
        broken(rule, 5, "0100", false);
        broken(rule, 5, "0050", false);
        broken(rule, 2, "0000", false);
    }

    private static void testSee() {
        broken("see 2 a1 b1 c1", 5, "000", false);
        broken("see 1 a1 b1 c1", 5, "120", false);
        broken("see 1 a1 b1 c1", 5, "012", false);
        broken("see 2 a1 b1 c1", 5, "131", false);
        broken("see 3 a1 b1 c1", 5, "131", true);
        broken("see 1 a1 b1 c1", 5, "131", true);
        broken("see 1 a1 b1 c1", 5, "533", false);
        broken("see 1 a1 b1 c1", 5, "333", false);
        broken("see 3 a1 b1 c1", 5, "124", false);
        broken("see 2 a1 b1 c1", 5, "223", false);
        broken("see 5 a1", 5, "0", false);
        broken("see 5 a1", 5, "5", true);
        broken("see 2 a1 b1 c1 d1", 5, "2324", true);
    }

    private static void testOddAndEven() {
        broken("odd a1 b1", 5, "00", false);
        broken("odd a1 b1", 5, "15", false);
        broken("odd a1 b1", 5, "30", false);
        broken("odd a1 b1", 5, "02", true);
        broken("odd a1 b1", 5, "41", true);
        broken("even a1 b1", 5, "00", false);
        broken("even a1 b1", 5, "42", false);
        broken("even a1 b1", 5, "03", true);
        broken("even a1 b1", 5, "25", true);
    }

    private static void testCountRule() {
        broken("count 2 1 a1 b1 c1", 5, "000", false);
        broken("count 2 1 a1 b1 c1", 5, "220", true);
        broken("count 2 1 a1 b1 c1", 5, "130", false);
        broken("count 2 1 a1 b1 c1", 5, "131", true);
        broken("count 2 1 a1 b1 c1", 5, "123", false);
        broken("count 1 2 a1 b1 c1", 5, "203", true);
        broken("count 1 2 a1 b1 c1", 5, "103", false);
        broken("count 1 0 a1 b1 c1", 5, "234", false);
        broken("count 1 0 a1 b1 c1", 5, "001", true);
        broken("count 1 5 a1 b1 c1", 5, "000", true);
    }

    private static void testIs() {
        broken("is b1 3", 5, "00", false);
        broken("is b1 3", 5, "13", false);
        broken("is b1 3", 5, "32", true);
        broken("is b1 3", 5, "34", true);
    }

    private static void testApart() {
        broken("apart 2 a1 b1 c1", 5, "000", false);
        broken("apart 2 a1 b1 c1", 5, "131", false);
        broken("apart 2 a1 b1 c1", 5, "120", true);
        broken("apart 2 a1 b1 c1", 5, "021", true);
        broken("apart 2 a1 b1 c1", 5, "330", true);
        broken("apart 2 a1 b1 c1", 5, "303", false);
        broken("apart 4 a1 b1", 5, "51", false);
        broken("apart 4 a1 b1", 5, "15", false);
        broken("apart 4 a1 b1", 5, "41", true);
        broken("apart 4 a1 b1", 3, "00", false);
    }

    private static void testSame() {
        broken("same a1 b1 c1", 5, "000", false);
        broken("same a1 b1 c1", 5, "220", false);
        broken("same a1 b1 c1", 5, "222", false);
        broken("same a1 b1 c1", 5, "203", true);
        broken("same a1 b1 c1", 5, "023", true);
        broken("same a1 b1 c1", 5, "223", true);
        broken("same a1", 5, "4", false);
    }

    private static void testDrop() {
        RiddleMill mill = Check.mill("grid 2 2 3;odd a1;is b1 2;even a2;is b2 1;");
        mill.put(0, 1);
        mill.search(4);
        mill.reason();
        int kept = mill.count(7);
        String sets = Check.sets(mill);
        int passes = mill.reasoned(0);
        Check.same("solutions are there", true, kept > 0);
        Check.same("drop in the midst", 3, mill.drop(1));
        Check.same("what is left", "grid 2 2 3;odd a1;even a2;is b2 1;", Check.written(mill));
        Check.same("rules is", 1, mill.count(4));
        Check.same("the grid stays", "1000", Check.grid(mill));
        Check.same("solutions stay", kept, mill.count(7));
        Check.same("sets stay", sets, Check.sets(mill));
        Check.same("passes stay", passes, mill.reasoned(0));
        int[] wrong = {-1, 3, Integer.MIN_VALUE, Integer.MAX_VALUE};
        for (int rule : wrong) {
            Check.refused("drop " + rule, mill, OUTSIDE, () -> mill.drop(rule));
        }
        Check.same("drop the last one", 2, mill.drop(2));
        Check.same("drop the first one", 1, mill.drop(0));
        Check.same("what is left then", "grid 2 2 3;even a2;", Check.written(mill));
        Check.same("drop all", 0, mill.drop(0));
        Check.refused("drop of none", mill, OUTSIDE, () -> mill.drop(0));
        Check.same("no rules", "grid 2 2 3;", Check.written(mill));
    }

    private static void testWrite() {
        String text = "grid 5 4 3;differ a1 e4;sum 0 a1;sum 7 a1 b1;sum 10 a1;sum 105 a1;sum 9000 a1;"
                + "product 60 c1 c2 c3;less b1 a1;up a2;see 4 a3 b3;odd a4;even b4;"
                + "count 3 0 a1 b1 c1;is d4 3;apart 2 e1 e2;same a1 e4 c3 d3 b2;";
        RiddleMill mill = Check.mill(text);
        Check.same("bytes of the text", text.length(), mill.write());
        Check.same("the text", text, Check.paper(mill));
        Check.compile(mill, "grid 2 2 2;");
        Check.same("the paper stays behind compile", text, Check.paper(mill));
        Check.same("a shorter text", 11, mill.write());
        Check.same("it takes the place", "grid 2 2 2;", Check.paper(mill));
        Check.compile(mill, text);
        Check.same("a text that was written can be read", text, Check.written(mill));
        RiddleMill empty = new RiddleMill();
        Check.refused("write without a puzzle", empty, IllegalStateException.class, () -> empty.write());
    }

    private static void testByteAt() {
        RiddleMill mill = Check.mill("grid 2 2 2;");
        Check.refused("an empty paper", mill, OUTSIDE, () -> mill.byteAt(0));
        mill.write();
        Check.same("the first byte", 'g', mill.byteAt(0));
        Check.same("a blank", ' ', mill.byteAt(4));
        Check.same("the last byte", ';', mill.byteAt(10));
        int[] wrong = {-1, 11, 12, 1980, Integer.MIN_VALUE, Integer.MAX_VALUE};
        for (int k : wrong) {
            Check.refused("byteAt " + k, mill, OUTSIDE, () -> mill.byteAt(k));
        }
    }

    private static void testTheLongestPaper() {
        String rule = "product 1024 a1 b1 c1 d1 e1;";
        String text = "grid 5 5 5;" + Check.repeat(rule, 40);
        RiddleMill mill = Check.mill(text);
        Check.same("forty long rules", text, Check.written(mill));
        // The first row is all 4, the other cells are open.
        Check.same("all others are given", 20, mill.make(5));
        String all = Check.written(mill);
        Check.same("their bytes", text.length() + 20 * 8, all.length());
        Check.same("the last byte", ";", all.substring(all.length() - 1));
    }
}
