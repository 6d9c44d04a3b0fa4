/** Part 1 of the document, what a text is: each sentence of it that names an edge. */
public final class TextEdgesTest {
    private static final String HEAD = "grid 5 5 5;";
    // The words with cells behind them, and what stands between.
    private static final String[] WITH_CELLS = {"differ", "sum 9", "product 9", "up", "see 2", "odd", "even",
        "count 1 1", "apart 1", "same"};

    private TextEdgesTest() {
    }

    public static void main(String[] args) {
        testTheLastByteOfAFullTape();
        testWhatWasTrimmedIsNotRead();
        testOnlyBlanksAndLineEndsCanStandBetween();
        testTokensThatWouldBeReadAsOne();
        testLettersOfCells();
        testDigitsOfCells();
        testLengthsOfWords();
        testLengthsOfNumbers();
        testNoRulesUpToForty();
        testNoCellsUpToFive();
        testWherePuzzlesAreCut();
        testSizesOfTheGrid();
        testValuesOfCount();
        testTimesOfCount();
        testValuesOfIs();
        testNumbersOfSee();
        testNumbersOfApart();
        testNumbersOfSumAndProduct();
        testCellsOffTheGrid();
        testCellsTwice();
        testTheSixthCell();
        testTheFortyFirstRule();
        testRowsBeyondForty();
        testColumnsBeyondForty();
        testTheSmallestErrorAtOnePlace();
        Check.end();
    }

    private static String blanks(int howMany) {
        return Check.repeat(" ", howMany);
    }

    // "The tape is a row of at most 1600 bytes": all of them are read.
    private static void testTheLastByteOfAFullTape() {
        String full = "grid 2 2 2;" + blanks(1600 - 11 - 7) + "odd a1;";
        Check.reads(full, "grid 2 2 2;odd a1;");
        String open = full.substring(0, 1599);
        Check.error(open + " ", 1, 1600);
        Check.error(open + "x", 1, 1599);
        Check.error(open + "1", 1, 1599);
        Check.error("grid 2 2 2;" + blanks(1588) + "a", 1, 1599);
        Check.error(blanks(1600), 1, 1600);
        Check.error(Check.repeat("9", 1600), 1, 0);
        Check.error(Check.repeat("g", 1600), 1, 0);
    }

    // What stood behind the end of the tape is neither the digit of a cell, nor one of a number.
    private static void testWhatWasTrimmedIsNotRead() {
        RiddleMill mill = new RiddleMill();
        Check.feed(mill, "grid 2 2 2;odd a1;");
        mill.trim(16);
        Check.same("a cell is cut", 1, mill.compile());
        Check.same("where it is cut", 15, mill.errorAt());
        Check.feed(mill, "grid 2 2 2;sum 1234 a1;");
        mill.trim(17);
        Check.feed(mill, " a1;");
        Check.same("a number is cut", 0, mill.compile());
        Check.same("what is left of it", "grid 2 2 2;sum 12 a1;", Check.written(mill));
        Check.feed(mill, "grid 2 2 2;rows;");
        mill.trim(11);
        Check.same("a rule is cut", 0, mill.compile());
        Check.same("no rules", 0, mill.count(3));
        // The tape is empty behind compile: the end of the longer text is not there any more.
        Check.feed(mill, "grid 2 2 2");
        Check.same("a shorter text", 1, mill.compile());
        Check.same("its end", 10, mill.errorAt());
    }

    private static boolean isBlank(int sign) {
        return sign == 32 || sign == 10;
    }

    private static boolean isDigit(int sign) {
        return sign >= '0' && sign <= '9';
    }

    private static void testOnlyBlanksAndLineEndsCanStandBetween() {
        for (int sign = 0; sign <= 255; sign++) {
            String between = "grid 2 2 2" + (char) sign + ";";
            String begin = (char) sign + "grid 2 2 2;";
            String end = "grid 2 2 2;" + (char) sign;
            if (isBlank(sign)) {
                Check.reads(between, "grid 2 2 2;");
                Check.reads(begin, "grid 2 2 2;");
                Check.reads(end, "grid 2 2 2;");
                continue;
            }
            Check.error(begin, 1, 0);
            Check.error(end, 1, 11);
            if (isDigit(sign)) {
                Check.error(between, 2, 9);
            } else {
                Check.error(between, 1, sign == ';' ? 11 : 10);
            }
        }
    }

    private static void testTokensThatWouldBeReadAsOne() {
        Check.error("grid 22 2;", 1, 9);
        Check.error("grid 2 2 2;oddb2;", 1, 11);
        Check.error("grid 2 2 2;oddodd a1;", 1, 11);
        Check.error("grid 2 2 2;count 11 a1;", 1, 20);
        // All others can stand without anything between them.
        Check.reads("grid2 2 2;odd a1b1;count1 1a1b1;is b22;", "grid 2 2 2;odd a1 b1;count 1 1 a1 b1;is b2 2;");
        Check.reads("grid2\n2 2;odd\na1;", "grid 2 2 2;odd a1;");
        // A letter with a digit behind it is a cell, wherever a token begins.
        Check.error("grid 2 2 2;o2dd a1;", 1, 11);
        Check.error("g2", 1, 0);
    }

    // "A cell: a letter a to z and a digit"
    private static void testLettersOfCells() {
        for (int sign = 0; sign <= 255; sign++) {
            String text = HEAD + "odd " + (char) sign + "1;";
            if (sign >= 'a' && sign <= 'e') {
                Check.reads(text, text);
            } else if (sign >= 'f' && sign <= 'z') {
                Check.error(text, 2, 15);
            } else {
                Check.error(text, 1, isBlank(sign) ? 16 : 15);
            }
        }
    }

    // ".. if the byte behind the letter is a digit": otherwise it is a word.
    private static void testDigitsOfCells() {
        for (int sign = 0; sign <= 255; sign++) {
            String text = HEAD + "odd a" + (char) sign + ";";
            if (sign >= '1' && sign <= '5') {
                Check.reads(text, text);
            } else {
                Check.error(text, isDigit(sign) ? 2 : 1, 15);
            }
        }
    }

    private static void testLengthsOfWords() {
        for (int length = 1; length <= 40; length++) {
            Check.error(HEAD + Check.repeat("x", length) + ";", 1, 11);
            Check.error(HEAD + "columns" + Check.repeat("s", length) + ";", 1, 11);
            Check.error("grid" + Check.repeat("d", length) + " 5 5 5;", 1, 0);
        }
    }

    private static void testLengthsOfNumbers() {
        for (int length = 1; length <= 12; length++) {
            String two = Check.repeat("0", length - 1) + "2";
            String[] texts = {"grid " + two + " 2 2;", "grid 2 " + two + " 2;", "grid 2 2 " + two + ";",
                "grid 2 2 2;sum " + two + " a1;", "grid 2 2 2;count " + two + " 2 a1;",
                "grid 2 2 2;count 2 " + two + " a1;", "grid 2 2 2;is a1 " + two + ";"};
            for (String text : texts) {
                if (length <= 4) {
                    Check.reads(text, text.replace(two, "2"));
                } else {
                    Check.error(text, 1, text.indexOf(two));
                }
            }
        }
        // Too long, wherever the digits that are too much stand.
        Check.error("grid 2 2 2;sum 12345 a1;", 1, 15);
        Check.error("grid 2 2 2;sum 99999999999999999999 a1;", 1, 15);
    }

    // "{ x } means x any number of times, also none"
    private static void testNoRulesUpToForty() {
        for (int rules = 0; rules <= 40; rules++) {
            String text = HEAD + Check.repeat("up b2;", rules);
            Check.reads(text, text);
            Check.same("rules", rules, Check.mill(text).count(3));
        }
    }

    private static void testNoCellsUpToFive() {
        String[] cells = {" a1", " b2", " c3", " d4", " e5"};
        for (String word : WITH_CELLS) {
            Check.error(HEAD + word + ";", 1, 11 + word.length());
            StringBuilder rule = new StringBuilder(word);
            for (int size = 1; size <= 5; size++) {
                rule.append(cells[size - 1]);
                String text = HEAD + rule + ";";
                Check.reads(text, text);
                Check.same("cells", size, Check.mill(text).rule(0, 3));
            }
        }
    }

    // Error 1 is at the end of the tape, but where a word or a cell is cut, at its first byte.
    private static void testWherePuzzlesAreCut() {
        String text = "grid 5 5 5;rows;columns;differ a1 b1;sum 12 a1 c3;product 1024 b2;less a1 e5;up c1;"
                + "see 3 d2;odd a1;even b1;count 5 2 a5 b5;is c3 4;apart 4 d1 e1;same a1 a2;";
        for (int cut = 0; cut < text.length(); cut++) {
            String part = text.substring(0, cut);
            if (part.endsWith(";")) {
                Check.reads(part, Check.written(Check.mill(part)));
                continue;
            }
            int start = cut;
            boolean isCut = cut > 0 && isLetter(text.charAt(cut - 1))
                    && (isLetter(text.charAt(cut)) || isDigit(text.charAt(cut)));
            while (isCut && start > 0 && isLetter(text.charAt(start - 1))) {
                start--;
            }
            Check.error(part, 1, start);
        }
    }

    private static boolean isLetter(int sign) {
        return sign >= 'a' && sign <= 'z';
    }

    private static boolean isSize(int number) {
        return number >= 2 && number <= 5;
    }

    private static void testSizesOfTheGrid() {
        for (int w = 0; w <= 7; w++) {
            for (int h = 0; h <= 7; h++) {
                for (int k = 0; k <= 7; k++) {
                    String text = "grid " + w + " " + h + " " + k + ";";
                    if (isSize(w) && isSize(h) && isSize(k)) {
                        Check.reads(text, text);
                    } else {
                        Check.error(text, 2, !isSize(w) ? 5 : !isSize(h) ? 7 : 9);
                    }
                }
            }
        }
    }

    // A rule that can be read, or has error 2 at a place.
    private static void number(boolean isRight, String text, int at) {
        if (isRight) {
            Check.reads(text, text);
        } else {
            Check.error(text, 2, at);
        }
    }

    private static void testValuesOfCount() {
        for (int k = 2; k <= 5; k++) {
            for (int value = 0; value <= 9; value++) {
                number(value >= 1 && value <= k, "grid 2 2 " + k + ";count " + value + " 1 a1;", 17);
            }
        }
    }

    private static void testTimesOfCount() {
        for (int times = 0; times <= 9; times++) {
            number(times <= 5, "grid 2 2 2;count 1 " + times + " a1;", 19);
        }
    }

    private static void testValuesOfIs() {
        for (int k = 2; k <= 5; k++) {
            for (int value = 0; value <= 9; value++) {
                number(value >= 1 && value <= k, "grid 2 2 " + k + ";is a1 " + value + ";", 17);
            }
        }
    }

    private static void testNumbersOfSee() {
        for (int k = 2; k <= 5; k++) {
            for (int number = 0; number <= 9; number++) {
                number(number >= 1 && number <= 5, "grid 2 2 " + k + ";see " + number + " a1;", 15);
            }
        }
    }

    private static void testNumbersOfApart() {
        for (int k = 2; k <= 5; k++) {
            for (int number = 0; number <= 9; number++) {
                number(number >= 1 && number <= 4, "grid 2 2 " + k + ";apart " + number + " a1;", 17);
            }
        }
    }

    // No error is told of them.
    private static void testNumbersOfSumAndProduct() {
        int[] numbers = {0, 1, 9, 10, 99, 100, 999, 1000, 1024, 3125, 9999};
        for (int number : numbers) {
            String text = "grid 2 2 2;sum " + number + " a1;product " + number + " b1;";
            Check.reads(text, text);
            RiddleMill mill = Check.mill(text);
            Check.same("number of sum", number, mill.rule(0, 1));
            Check.same("number of product", number, mill.rule(1, 1));
        }
    }

    private static void testCellsOffTheGrid() {
        for (int w = 2; w <= 5; w++) {
            for (int h = 2; h <= 5; h++) {
                for (int column = 0; column < 26; column++) {
                    for (int digit = 0; digit <= 9; digit++) {
                        String text = "grid " + w + " " + h + " 2;up " + (char) ('a' + column) + digit + ";";
                        number(column < w && digit >= 1 && digit <= h, text, 14);
                    }
                }
            }
        }
    }

    private static void testCellsTwice() {
        String[] cells = {"a1", "b1", "c1", "d1", "e1"};
        for (String word : WITH_CELLS) {
            for (int second = 1; second < 5; second++) {
                for (int first = 0; first < second; first++) {
                    StringBuilder rule = new StringBuilder(word);
                    for (int i = 0; i < 5; i++) {
                        rule.append(' ').append(cells[i == second ? first : i]);
                    }
                    Check.error(HEAD + rule + ";", 3, 11 + word.length() + 3 * second + 1);
                }
            }
        }
        Check.error(HEAD + "less e5 e5;", 3, 19);
    }

    private static void testTheSixthCell() {
        for (String word : WITH_CELLS) {
            Check.error(HEAD + word + " a1 b1 c1 d1 e1 e2;", 4, 11 + word.length() + 16);
            Check.error(HEAD + word + " a1 b1 c1 d1 e1 e2 e3 e4;", 4, 11 + word.length() + 16);
        }
    }

    private static void testTheFortyFirstRule() {
        String forty = HEAD + Check.repeat("up a1;", 40);
        Check.reads(forty, forty);
        String[] rules = {"differ a1;", "sum 1 a1;", "product 1 a1;", "less a1 b1;", "up a1;", "see 1 a1;",
            "odd a1;", "even a1;", "count 1 1 a1;", "is a1 1;", "apart 1 a1;", "same a1;", "rows;", "columns;"};
        for (String rule : rules) {
            Check.error(forty + rule, 4, forty.length());
            Check.error(forty + " \n" + rule + rule, 4, forty.length() + 2);
        }
    }

    private static void testRowsBeyondForty() {
        testLinesBeyondForty("rows;", true);
    }

    private static void testColumnsBeyondForty() {
        testLinesBeyondForty("columns;", false);
    }

    private static void testLinesBeyondForty(String lines, boolean areRows) {
        for (int w = 2; w <= 5; w++) {
            for (int h = 2; h <= 5; h++) {
                int many = areRows ? h : w;
                String head = "grid " + w + " " + h + " 5;";
                String most = head + Check.repeat("up a1;", 40 - many);
                Check.same("just forty rules", 40, Check.mill(most + lines).count(3));
                Check.error(most + "up a1;" + lines, 4, most.length() + 6);
                Check.error(most + lines + "up a1;", 4, most.length() + lines.length());
            }
        }
    }

    private static void testTheSmallestErrorAtOnePlace() {
        String five = HEAD + "odd a1 b1 c1 d1 e1 ";
        String[] off = {"f1", "z1", "a6", "a0", "e9"};
        for (String cell : off) {
            Check.error(five + cell + ";", 2, 30);
        }
        String[] twice = {"a1", "b1", "c1", "d1", "e1"};
        for (String cell : twice) {
            Check.error(five + cell + ";", 3, 30);
        }
        Check.error(five + "e5;", 4, 30);
        // A 41st rule has its error at its first token, whatever stands behind it.
        String forty = HEAD + Check.repeat("up a1;", 40);
        Check.error(forty + "see 9 a1;", 4, forty.length());
        Check.error(forty + "up a1 a1;", 4, forty.length());
    }
}
