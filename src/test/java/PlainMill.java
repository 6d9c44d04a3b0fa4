import java.util.ArrayList;
import java.util.List;

/** A second mill with the whole face, put together of the plain Model and ModelReader. */
final class PlainMill {
    private String tape = "";
    private String paper = "";
    private int errorAt = -1;
    private int passesWithoutPuzzle;
    private int tries;
    // null: there is no puzzle.
    private Model puzzle;

    // ---- puzzles

    int feed(int... numbers) {
        if (tape.length() > 1580) {
            throw new IllegalStateException();
        }
        for (int number : numbers) {
            for (int place = 0; place < 4; place++) {
                tape = tape + (char) (number >>> 24 - 8 * place & 255);
            }
        }
        return tape.length();
    }

    int trim(int n) {
        if (n < 0 || n > tape.length()) {
            throw new IllegalArgumentException();
        }
        tape = tape.substring(0, n);
        return n;
    }

    int compile() {
        ModelReader reader = new ModelReader(tape);
        tape = "";
        errorAt = reader.errorAt;
        if (reader.error == 0) {
            puzzle = reader.puzzle;
            puzzle.look();
            passesWithoutPuzzle = 0;
        }
        return reader.error;
    }

    int errorAt() {
        return errorAt;
    }

    private static void requireIndex(int index, int bound) {
        if (index < 0 || index >= bound) {
            throw new IndexOutOfBoundsException();
        }
    }

    private static void requireArgument(int number, int least, int most) {
        if (number < least || number > most) {
            throw new IllegalArgumentException();
        }
    }

    private void requirePuzzle() {
        if (puzzle == null) {
            throw new IllegalStateException();
        }
    }

    private int rules() {
        return puzzle == null ? 0 : puzzle.rules.size();
    }

    private int cells() {
        return puzzle == null ? 0 : puzzle.w * puzzle.h;
    }

    private int kept() {
        return puzzle == null ? 0 : puzzle.solutions.size();
    }

    private int filled() {
        int filled = 0;
        for (int cell = 0; cell < cells(); cell++) {
            filled += puzzle.grid[cell] > 0 ? 1 : 0;
        }
        return filled;
    }

    int count(int what) {
        requireIndex(what, 11);
        boolean is = puzzle != null;
        int[] counts = {is ? puzzle.w : 0, is ? puzzle.h : 0, is ? puzzle.k : 0, rules(),
            is ? puzzle.countGivens() : 0, filled(), is ? puzzle.countBroken() : 0, kept(), tries,
            tape.length(), paper.length()};
        return counts[what];
    }

    int rule(int rule, int what) {
        requireIndex(rule, rules());
        requireIndex(what, 10);
        Model.ModelRule told = puzzle.rules.get(rule);
        List<Integer> all = new ArrayList<>();
        all.add(List.of("differ", "sum", "product", "less", "up", "see", "odd", "even", "count", "is", "apart",
                "same").indexOf(told.word));
        all.add(told.number);
        all.add(told.times);
        all.add(told.cells.length);
        for (int place = 0; place < 5; place++) {
            all.add(place < told.cells.length ? told.cells[place] : -1);
        }
        all.add(puzzle.broken(told, puzzle.grid) ? 1 : 0);
        return all.get(what);
    }

    int drop(int rule) {
        requireIndex(rule, rules());
        puzzle.rules.remove(rule);
        return rules();
    }

    int write() {
        requirePuzzle();
        paper = puzzle.text();
        return paper.length();
    }

    int byteAt(int k) {
        requireIndex(k, paper.length());
        return paper.charAt(k);
    }

    // ---- the grid

    int put(int cell, int value) {
        requireIndex(cell, cells());
        requireArgument(value, 0, puzzle.k);
        int before = puzzle.grid[cell];
        puzzle.grid[cell] = value;
        return before;
    }

    int value(int cell) {
        requireIndex(cell, cells());
        return puzzle.grid[cell];
    }

    int clear() {
        int filled = filled();
        for (int cell = 0; cell < cells(); cell++) {
            puzzle.grid[cell] = 0;
        }
        return filled;
    }

    // ---- searching

    int search(int most) {
        requireArgument(most, 1, 30);
        requirePuzzle();
        int found = puzzle.search(most);
        tries = puzzle.tries;
        return found;
    }

    int solution(int index, int cell) {
        requireIndex(index, kept());
        requireIndex(cell, cells());
        return puzzle.solutions.get(index)[cell];
    }

    boolean isNeeded(int rule) {
        requireIndex(rule, rules());
        return puzzle.isNeeded(rule);
    }

    // ---- reasoning

    int look() {
        passesWithoutPuzzle = 0;
        return puzzle == null ? 0 : puzzle.look();
    }

    int possible(int cell) {
        requireIndex(cell, cells());
        return puzzle.sets[cell];
    }

    int hint(int what) {
        requireIndex(what, 4);
        if (puzzle == null) {
            return -1;
        }
        Model.Deduction first = puzzle.hint();
        return new int[] {first.rule(), first.cell(), first.value(), first.grade()}[what];
    }

    boolean step() {
        return puzzle != null && puzzle.step();
    }

    int reason() {
        if (puzzle == null) {
            passesWithoutPuzzle = 1;
            return 0;
        }
        return puzzle.reason();
    }

    int reasoned(int what) {
        requireIndex(what, 4);
        if (puzzle == null) {
            return what == 0 ? passesWithoutPuzzle : 0;
        }
        return new int[] {puzzle.passes, puzzle.greatestGrade, puzzle.countSets(1), puzzle.countSets(0)}[what];
    }

    // ---- making

    int make(int seed) {
        requireArgument(seed, 0, 65535);
        requirePuzzle();
        return puzzle.make(seed);
    }

    int change(int sort) {
        requireArgument(sort, 0, 1);
        requirePuzzle();
        return puzzle.change(sort);
    }

    double doubt() {
        double possible = 0;
        for (int cell = 0; cell < cells(); cell++) {
            possible += Integer.bitCount(puzzle.sets[cell]);
        }
        return puzzle == null ? 0 : possible / (cells() * puzzle.k);
    }

    long digest() {
        List<Integer> all = new ArrayList<>();
        for (int what = 0; what <= 10; what++) {
            all.add(count(what));
        }
        for (int rule = 0; rule < rules(); rule++) {
            for (int what = 0; what <= 9; what++) {
                all.add(rule(rule, what));
            }
        }
        for (int cell = 0; cell < cells(); cell++) {
            all.add(puzzle.grid[cell]);
            all.add(puzzle.sets[cell]);
        }
        for (int index = 0; index < kept(); index++) {
            for (int value : puzzle.solutions.get(index)) {
                all.add(value);
            }
        }
        for (int what = 0; what <= 3; what++) {
            all.add(reasoned(what));
        }
        long d = 457;
        for (int x : all) {
            d = d * 31 + x;
        }
        for (char sign : paper.toCharArray()) {
            d = d * 31 + sign;
        }
        return d;
    }
}
