/** The example of README.md. */
public final class Example {
    private Example() {
    }

    public static void main(String[] args) {
        RiddleMill mill = new RiddleMill();
        feed(mill, "grid 4 4 4; rows; columns; sum 5 a1 b1; less a2 a3; is d4 1;");
        if (mill.compile() != 0) {
            System.out.println("there is an error at byte " + mill.errorAt());
            return;
        }
        System.out.println("rules: " + mill.count(3));

        mill.put(0, 3);
        int found = mill.search(30);
        System.out.println("solutions with a 3 in cell 0: " + found + ", with " + mill.count(8) + " tries");
        System.out.println("the first one: " + solution(mill, 0));

        mill.look();
        System.out.println("first deduction: rule " + mill.hint(0) + " takes " + mill.hint(2)
                + " out of cell " + mill.hint(1));
        System.out.println("deductions: " + mill.reason() + ", doubt that is left: " + mill.doubt());

        System.out.println("cells given in the puzzle of seed 42: " + mill.make(42));
        mill.change(1);
        System.out.println("the same, mirrored: " + text(mill));
    }

    // Twenty bytes are fed at a time, four to a number, the highest one first; trim takes off what
    // is too much.
    private static void feed(RiddleMill mill, String text) {
        int length = mill.count(9) + text.length();
        for (int from = 0; from < text.length(); from += 20) {
            int[] n = new int[5];
            for (int i = 0; i < 20; i++) {
                int sign = from + i < text.length() ? text.charAt(from + i) : ' ';
                n[i / 4] = n[i / 4] << 8 | sign;
            }
            mill.feed(n[0], n[1], n[2], n[3], n[4]);
        }
        mill.trim(length);
    }

    private static String solution(RiddleMill mill, int index) {
        StringBuilder digits = new StringBuilder();
        for (int cell = 0; cell < mill.count(0) * mill.count(1); cell++) {
            digits.append(mill.solution(index, cell));
        }
        return digits.toString();
    }

    private static String text(RiddleMill mill) {
        StringBuilder text = new StringBuilder();
        int bytes = mill.write();
        for (int k = 0; k < bytes; k++) {
            text.append((char) mill.byteAt(k));
        }
        return text.toString();
    }
}
