/** Promises 4 and 5: compile and errorAt. */
public final class CompileTest {
    private CompileTest() {
    }

    public static void main(String[] args) {
        testBlanks();
        testTokensWithoutBlanks();
        testNumbers();
        testErrorsOfForm();
        testErrorsOfFormInRules();
        testMisspeltWords();
        testManyTokens();
        testTooLongTokens();
        testErrorsOfTheGrid();
        testErrorsOfNumbers();
        testErrorsOfCells();
        testTooManyCells();
        testTooManyRules();
        testFormIsLookedAtFirst();
        testTheFirstErrorIsTold();
        testErrorLeavesAllAsItWas();
        testPuzzleTakesThePlace();
        testRulesAreMadeAnew();
        testErrorAtIsOfTheLatestCompile();
        Check.end();
    }

    private static void testBlanks() {
        Check.reads("grid 2 3 4;", "grid 2 3 4;");
        Check.reads("  \n grid\n2 \n3  4 ; \n ", "grid 2 3 4;");
        Check.reads("grid 2 2 2;\nsum 3 a1\nb1;\n", "grid 2 2 2;sum 3 a1 b1;");
        Check.error("grid\t2 2 2;", 1, 4);
        Check.error("grid 2 2 2;\r\n", 1, 11);
        Check.error("gr id 2 2 2;", 1, 0);
        Check.error("grid 2 2 2;odd a 1;", 1, 15);
    }

    private static void testTokensWithoutBlanks() {
        Check.reads("grid2 2 2;", "grid 2 2 2;");
        Check.reads("grid 2 2 2;sum3a1b1a2b2;", "grid 2 2 2;sum 3 a1 b1 a2 b2;");
        // Two digits behind a letter are a cell and a number.
        Check.reads("grid 2 2 2;is a12;", "grid 2 2 2;is a1 2;");
        Check.reads("grid 2 2 2;odd a1;even b2;", "grid 2 2 2;odd a1;even b2;");
        Check.error("grid 2 2 2;odda1;", 1, 11);
        Check.error("grid 222;", 1, 8);
        Check.error("grid 2 2 2;rows1;", 1, 15);
        Check.error("grid 2 2 2;sum 3 a12;", 1, 19);
        Check.error("grid 2 2 2;odd aa1;", 1, 15);
    }

    private static void testNumbers() {
        Check.reads("grid 0002 2 02;sum 0 a1;sum 9999 a1;", "grid 2 2 2;sum 0 a1;sum 9999 a1;");
        Check.reads("grid 2 2 2;product 0 a1;product 0040 a1;", "grid 2 2 2;product 0 a1;product 40 a1;");
        Check.reads("grid 2 2 2;is a1 0001;", "grid 2 2 2;is a1 1;");
    }

    private static void testErrorsOfForm() {
        Check.error("", 1, 0);
        Check.error("   ", 1, 3);
        Check.error(";", 1, 0);
        Check.error("rows;", 1, 0);
        Check.error("3", 1, 0);
        Check.error("14 3 3 3;", 1, 0);
        Check.error("a1", 1, 0);
        Check.error("Grid 2 2 2;", 1, 0);
        Check.error("grids 2 2 2;", 1, 0);
        Check.error("gri 2 2 2;", 1, 0);
        Check.error("grid", 1, 4);
        Check.error("grid;", 1, 4);
        Check.error("grid a1 2 2;", 1, 5);
        Check.error("grid 2", 1, 6);
        Check.error("grid 2 2", 1, 8);
        Check.error("grid 2 2;", 1, 8);
        Check.error("grid 2 2 2", 1, 10);
        Check.error("grid 2 2 2  ", 1, 12);
        Check.error("grid 2 2 2 2;", 1, 11);
        Check.error("grid 2 2 2,", 1, 10);
        Check.error("grid -2 2 2;", 1, 5);
        Check.error("grid 2 2 2;;", 1, 11);
        Check.error("grid 2 2 2;grid 2 2 2;", 1, 11);
        Check.error("grid 2 2 2;12;", 1, 11);
        Check.error("grid 2 2 2;a1;", 1, 11);
        Check.error("grid 2 2 2;row;", 1, 11);
        Check.error("grid 2 2 2;ROWS;", 1, 11);
        Check.error("grid 2 2 2; {", 1, 12);
        Check.error("grid 2 2 2;`", 1, 11);
        Check.error("grid 2 2 2;:", 1, 11);
        Check.error("grid 2 2 2;/", 1, 11);
    }

    private static void testErrorsOfFormInRules() {
        Check.error("grid 2 2 2;rows", 1, 15);
        Check.error("grid 2 2 2;rows rows;", 1, 16);
        Check.error("grid 2 2 2;rows a1;", 1, 16);
        Check.error("grid 2 2 2;columns 2;", 1, 19);
        String[] words = {"differ", "up", "odd", "even", "same", "less"};
        for (String word : words) {
            int behind = 11 + word.length();
            Check.error("grid 2 2 2;" + word + ";", 1, behind);
            Check.error("grid 2 2 2;" + word + " 1 a1;", 1, behind + 1);
            Check.error("grid 2 2 2;" + word + " a1", 1, behind + 3);
            Check.error("grid 2 2 2;" + word + " a1 odd;", 1, behind + 4);
        }
        String[] wordsOfNumbers = {"sum", "product", "see", "apart"};
        for (String word : wordsOfNumbers) {
            int behind = 11 + word.length();
            Check.error("grid 2 2 2;" + word + " a1;", 1, behind + 1);
            Check.error("grid 2 2 2;" + word + " 1;", 1, behind + 2);
            Check.error("grid 2 2 2;" + word + " 1 2 a1;", 1, behind + 3);
            Check.error("grid 2 2 2;" + word + " 1 a1 2;", 1, behind + 6);
        }
        Check.error("grid 2 2 2;less a1;", 1, 18);
        Check.error("grid 2 2 2;less a1 b1 a2;", 1, 22);
        Check.error("grid 2 2 2;count a1;", 1, 17);
        Check.error("grid 2 2 2;count 1 a1;", 1, 19);
        Check.error("grid 2 2 2;count 1 1;", 1, 20);
        Check.error("grid 2 2 2;count 1 1 1 a1;", 1, 21);
        Check.error("grid 2 2 2;is 1 a1;", 1, 14);
        Check.error("grid 2 2 2;is a1;", 1, 16);
        Check.error("grid 2 2 2;is a1 b1 1;", 1, 17);
        Check.error("grid 2 2 2;is a1 1 1;", 1, 19);
    }

    private static void testMisspeltWords() {
        String[] words = {"rows", "columns", "differ", "sum", "product", "less", "up", "see", "odd", "even",
            "count", "is", "apart", "same"};
        for (String word : words) {
            Check.error("grid 2 2 2;x" + word.substring(1) + " 1 1 a1;", 1, 11);
            Check.error("grid 2 2 2;" + word.substring(0, word.length() - 1) + "x 1 1 a1;", 1, 11);
            Check.error("grid 2 2 2;" + word.substring(0, word.length() - 1) + " 1 1 a1;", 1, 11);
            Check.error("grid 2 2 2;" + word + "x 1 1 a1;", 1, 11);
        }
        Check.error("xrid 2 2 2;", 1, 0);
        Check.error("grix 2 2 2;", 1, 0);
    }

    private static void testManyTokens() {
        Check.error(Check.repeat(";", 1600), 1, 0);
        Check.error("grid 2 2 2" + Check.repeat(";", 1590), 1, 11);
        Check.error("grid 2 2 2;odd  " + Check.repeat("a1", 792), 1, 1600);
        Check.error("grid 2 2 2;odd a1" + Check.repeat(" ", 1583), 1, 1600);
        Check.error("grid 2 2 2;" + Check.repeat("up a1;", 264) + "up a1", 1, 1600);
    }

    private static void testTooLongTokens() {
        Check.error("grid 2 2 2;sum 10000 a1;", 1, 15);
        Check.error("grid 2 2 2;sum 00001 a1;", 1, 15);
        Check.error("grid 2 2 2;sum " + Check.repeat("9", 40) + " a1;", 1, 15);
        Check.error("grid 2 2 22222;", 1, 9);
        // 2 to the 32nd and 1, which is 1 in 32 bits
        Check.error("grid 2 2 2;is a1 4294967297;", 1, 17);
        Check.error("grid 2 2 2;differing a1;", 1, 11);
        Check.error("grid 2 2 2;" + Check.repeat("rows", 300) + ";", 1, 11);
    }

    private static void testErrorsOfTheGrid() {
        Check.reads("grid 5 5 5;", "grid 5 5 5;");
        String[] wrong = {"0", "1", "6", "9999"};
        for (String number : wrong) {
            Check.error("grid " + number + " 2 2;", 2, 5);
            Check.error("grid 2 " + number + " 2;", 2, 7);
            Check.error("grid 2 2 " + number + ";", 2, 9);
            Check.error("grid " + number + " " + number + " " + number + ";", 2, 5);
        }
    }

    private static void testErrorsOfNumbers() {
        Check.reads("grid 2 2 3;count 3 5 a1;count 1 0 a1;", "grid 2 2 3;count 3 5 a1;count 1 0 a1;");
        Check.error("grid 2 2 3;count 0 1 a1;", 2, 17);
        Check.error("grid 2 2 3;count 4 1 a1;", 2, 17);
        Check.error("grid 2 2 3;count 1 6 a1;", 2, 19);
        Check.reads("grid 2 2 3;is a1 3;is b1 1;", "grid 2 2 3;is a1 3;is b1 1;");
        Check.error("grid 2 2 3;is a1 0;", 2, 17);
        Check.error("grid 2 2 3;is a1 4;", 2, 17);
        Check.reads("grid 2 2 3;see 5 a1;see 1 a1;", "grid 2 2 3;see 5 a1;see 1 a1;");
        Check.error("grid 2 2 3;see 0 a1;", 2, 15);
        Check.error("grid 2 2 3;see 6 a1;", 2, 15);
        Check.reads("grid 2 2 3;apart 4 a1;apart 1 a1;", "grid 2 2 3;apart 4 a1;apart 1 a1;");
        Check.error("grid 2 2 3;apart 0 a1;", 2, 17);
        Check.error("grid 2 2 3;apart 5 a1;", 2, 17);
    }

    private static void testErrorsOfCells() {
        Check.reads("grid 3 2 2;odd c2;", "grid 3 2 2;odd c2;");
        Check.error("grid 3 2 2;odd d1;", 2, 15);
        Check.error("grid 3 2 2;odd a3;", 2, 15);
        Check.error("grid 3 2 2;odd a0;", 2, 15);
        Check.error("grid 3 2 2;odd a1 z9;", 2, 18);
        Check.error("grid 3 2 2;differ a1 b1 a1;", 3, 24);
        Check.error("grid 3 2 2;less b2 b2;", 3, 19);
        Check.error("grid 3 2 2;sum 3 a1 a1;", 3, 20);
        // Another rule can have the cell, too.
        Check.reads("grid 3 2 2;odd a1;odd a1;", "grid 3 2 2;odd a1;odd a1;");
        Check.reads("grid 3 2 2;rows;differ a1 b1;",
                "grid 3 2 2;differ a1 b1 c1;differ a2 b2 c2;differ a1 b1;");
    }

    private static void testTooManyCells() {
        Check.reads("grid 5 5 5;odd a1 b1 c1 d1 e1;", "grid 5 5 5;odd a1 b1 c1 d1 e1;");
        Check.error("grid 5 5 5;odd a1 b1 c1 d1 e1 a2;", 4, 30);
        // At one place the error with the smallest number is told.
        Check.error("grid 5 5 5;odd a1 b1 c1 d1 e1 a1;", 3, 30);
        Check.error("grid 5 5 5;odd a1 b1 c1 d1 e1 f1;", 2, 30);
    }

    private static void testTooManyRules() {
        String head = "grid 5 4 5;";
        RiddleMill mill = Check.mill(head + Check.repeat("odd a1;", 40));
        Check.same("40 rules", 40, mill.count(3));
        Check.error(head + Check.repeat("odd a1;", 41), 4, 11 + 40 * 7);
        Check.error(head + Check.repeat("odd a1;", 40) + "sum 1 z9;", 4, 11 + 40 * 7);
        Check.same("rows up to 40", 40,
                Check.mill(head + Check.repeat("odd a1;", 36) + "rows;").count(3));
        Check.error(head + Check.repeat("odd a1;", 37) + "rows;", 4, 11 + 37 * 7);
        Check.same("columns up to 40", 40,
                Check.mill(head + Check.repeat("odd a1;", 35) + "columns;").count(3));
        Check.error(head + Check.repeat("odd a1;", 36) + "columns;", 4, 11 + 36 * 7);
        Check.error(head + "rows;columns;rows;columns;rows;columns;rows;columns;rows;rows;", 4,
                11 + 4 * 13 + 5);
    }

    private static void testFormIsLookedAtFirst() {
        Check.error("grid 9 9 9;odd", 1, 14);
        Check.error("grid 2 2 2;odd a1 a1;x", 1, 21);
        Check.error("grid 2 2 2;odd z9", 1, 17);
    }

    private static void testTheFirstErrorIsTold() {
        Check.error("grid 2 2 2;odd a1 a1;odd c1;", 3, 18);
        Check.error("grid 2 2 2;odd c1;odd a1 a1;", 2, 15);
        Check.error("grid 2 2 2;count 9 9 z9;", 2, 17);
        Check.error("grid 2 2 2;count 1 9 z9;", 2, 19);
        Check.error("grid 2 2 2;is z9 9;", 2, 14);
        Check.error("grid 6 2 2;odd f1;", 2, 5);
    }

    private static void testErrorLeavesAllAsItWas() {
        RiddleMill mill = Check.mill("grid 3 2 3;rows;less a1 b1;is c2 1;");
        mill.put(4, 2);
        mill.search(3);
        mill.write();
        mill.look();
        mill.reason();
        Check.same("passes are there", true, mill.reasoned(0) > 0);
        String[] wrong = {"", "grid 2 2 2", "grid 2 2 6;", "grid 2 2 2;odd a1;odd a1 a1;",
            "grid 5 5 5;" + Check.repeat("odd a1;", 41)};
        for (String text : wrong) {
            String before = Check.state(mill).replaceAll("error -?\\d+", "");
            long digest = mill.digest();
            Check.same("an error of \"" + text + "\"", true, Check.compile(mill, text) != 0);
            Check.same("the state", before, Check.state(mill).replaceAll("error -?\\d+", ""));
            Check.same("the digest", digest, mill.digest());
        }
    }

    private static void testPuzzleTakesThePlace() {
        RiddleMill mill = Check.mill("grid 2 2 3;odd a1;is b1 1;");
        mill.put(0, 3);
        mill.search(5);
        mill.write();
        mill.reason();
        Check.same("tries", true, mill.count(8) > 0);
        int tries = mill.count(8);
        String paper = Check.paper(mill);
        Check.same("compile of another one", 0, Check.compile(mill, "grid 3 2 2;even c2;"));
        Check.same("its columns", 3, mill.count(0));
        Check.same("its rows", 2, mill.count(1));
        Check.same("its values", 2, mill.count(2));
        Check.same("its rules", 1, mill.count(3));
        Check.same("its rules is", 0, mill.count(4));
        Check.same("its grid", "000000", Check.grid(mill));
        Check.same("no solutions", 0, mill.count(7));
        Check.same("tries are kept", tries, mill.count(8));
        Check.same("its sets", "3 3 3 3 3 3", Check.sets(mill));
        Check.same("passes are gone", 0, mill.reasoned(0));
        Check.same("the grade is gone", 0, mill.reasoned(1));
        Check.same("the paper is kept", paper, Check.paper(mill));
        Check.same("its text", "grid 3 2 2;even c2;", Check.written(mill));
    }

    // Whatever was there before, also of puzzles that rules were dropped of.
    private static void testRulesAreMadeAnew() {
        RiddleMill mill = Check.mill("grid 2 2 3;count 2 3 a1 b1 a2;count 3 1 a1 b1 b2;sum 5 a1 b2;odd b2;");
        String[] texts = {"grid 2 2 2;up a1 b1;same a2 b2 a1;less a1 b1;even a1;odd b1;",
            "grid 3 2 2;columns;is a1 2;is b1 1;", "grid 2 2 2;odd a1;sum 6 a1 b1;",
            "grid 2 2 3;count 1 1 a1;count 2 2 b1 a1;product 6 b2 a2;"};
        for (int round = 0; round < 8; round++) {
            mill.drop(1);
            mill.drop(0);
            String text = texts[round % texts.length];
            RiddleMill due = Check.mill(text);
            Check.same("compile, round " + round, 0, Check.compile(mill, text));
            Check.same("rules, round " + round, due.count(3), mill.count(3));
            for (int rule = 0; rule < due.count(3); rule++) {
                Check.same("rule " + rule + ", round " + round, Check.ruleText(due, rule),
                        Check.ruleText(mill, rule));
            }
        }
    }

    private static void testErrorAtIsOfTheLatestCompile() {
        RiddleMill mill = new RiddleMill();
        Check.compile(mill, "grid 2");
        Check.same("behind an error", 6, mill.errorAt());
        Check.feed(mill, "grid 2 2 2;");
        Check.same("behind a feed", 6, mill.errorAt());
        mill.compile();
        Check.same("behind a puzzle", -1, mill.errorAt());
        Check.compile(mill, "x");
        Check.same("behind another error", 0, mill.errorAt());
        Check.same("compile of the empty tape", 1, mill.compile());
        Check.same("behind the empty tape", 0, mill.errorAt());
    }
}
