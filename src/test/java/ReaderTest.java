/** Promises 4 and 5: compile reads what a second reader reads, over many right and wrong texts. */
public final class ReaderTest {
    private static final String[] WORDS = {"rows", "columns", "differ", "sum", "product", "less", "up", "see",
        "odd", "even", "count", "is", "apart", "same"};
    private static final String SIGNS = "abcdeg z0123456;;  \n\0\377" + "`{/:A";
    private static final int TEXTS = 60000;

    private static long state = 20261120L;
    private static final int[] seen = new int[5];

    private ReaderTest() {
    }

    public static void main(String[] args) {
        RiddleMill mill = new RiddleMill();
        for (int i = 0; i < TEXTS; i++) {
            if (i % 100 == 0) {
                mill = new RiddleMill();
            }
            testText(mill, spoil(text()));
        }
        // Otherwise the texts would test less than they should.
        for (int error = 0; error <= 4; error++) {
            Check.same("a thousand texts with error " + error + " at least", true, seen[error] >= 1000);
        }
        Check.end();
    }

    // The same numbers in each run of the tests.
    private static int number(int bound) {
        state = state * 6364136223846793005L + 1442695040888963407L;
        return (int) ((state >>> 33) % bound);
    }

    private static void testText(RiddleMill mill, String text) {
        ModelReader due = new ModelReader(text);
        int error = Check.compile(mill, text);
        seen[due.error]++;
        if (error != due.error || mill.errorAt() != due.errorAt) {
            Check.fail("\"" + text + "\": due is error " + due.error + " at " + due.errorAt + ", got error "
                    + error + " at " + mill.errorAt());
            return;
        }
        if (error == 0) {
            Check.same("puzzle of \"" + text + "\"", due.puzzle.text(), Check.written(mill));
        }
    }

    private static String text() {
        StringBuilder text = new StringBuilder("grid");
        for (int i = 0; i < 3; i++) {
            text.append(gap(true)).append(number(60) == 0 ? number(8) : 3 + number(3));
        }
        text.append(gap(false)).append(';');
        int rules = number(12) == 0 ? 30 + number(14) : number(5);
        for (int i = 0; i < rules; i++) {
            addRule(text);
        }
        return text.toString();
    }

    private static String gap(boolean isDue) {
        int blanks = isDue ? 1 : 0;
        blanks += number(8) == 0 ? number(3) : 0;
        return Check.repeat(number(6) == 0 ? "\n" : " ", blanks);
    }

    private static void addRule(StringBuilder text) {
        String word = WORDS[number(WORDS.length)];
        text.append(gap(false)).append(word);
        if (word.equals("rows") || word.equals("columns")) {
            text.append(';');
            return;
        }
        int numbers = word.equals("count") ? 2 : "sum product see apart".contains(word) ? 1 : 0;
        for (int i = 0; i < numbers; i++) {
            text.append(gap(true)).append(number(20) == 0 ? number(9) : 1 + number(3));
        }
        int cells = word.equals("is") ? 1 : word.equals("less") ? 2 : 1 + number(number(20) == 0 ? 7 : 4);
        int first = number(9);
        for (int i = 0; i < cells; i++) {
            int cell = number(25) == 0 ? number(30) : first + i;
            text.append(gap(i == 0 && numbers == 0));
            text.append((char) ('a' + cell % 3)).append(1 + cell / 3 % (number(10) == 0 ? 5 : 3));
        }
        if (word.equals("is")) {
            text.append(gap(false)).append(number(20) == 0 ? number(9) : 1 + number(3));
        }
        text.append(gap(false)).append(';');
    }

    // Some bytes are put in, taken out, changed, or the end is cut off.
    private static String spoil(String text) {
        StringBuilder spoilt = new StringBuilder(text);
        int times = number(3) == 0 ? 1 + number(3) : 0;
        for (int i = 0; i < times && spoilt.length() > 0; i++) {
            int place = number(spoilt.length());
            char sign = SIGNS.charAt(number(SIGNS.length()));
            switch (number(4)) {
                case 0 -> spoilt.insert(place, sign);
                case 1 -> spoilt.deleteCharAt(place);
                case 2 -> spoilt.setCharAt(place, sign);
                default -> spoilt.setLength(number(3) == 0 ? place : spoilt.length());
            }
        }
        return spoilt.substring(0, Math.min(1600, spoilt.length()));
    }
}
