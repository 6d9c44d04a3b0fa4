import java.util.Arrays;

/** Promises 6 to 25: the mill does what a slow and plain second one does, over many puzzles. */
public final class ModelTest {
    private static final String[] WORDS = {"differ", "sum", "product", "less", "up", "see", "odd", "even",
        "count", "is", "apart", "same"};
    private static final int PUZZLES = 1500;
    private static final int CALLS = 25;

    private static long state = 20261119L;
    private static String story = "";

    private ModelTest() {
    }

    public static void main(String[] args) {
        for (int i = 0; i < PUZZLES; i++) {
            testPuzzle();
        }
        Check.end();
    }

    // The same numbers in each run of the tests.
    private static int number(int bound) {
        state = state * 6364136223846793005L + 1442695040888963407L;
        return (int) ((state >>> 33) % bound);
    }

    private static Model puzzle() {
        Model model = new Model(2 + number(4), 2 + number(4), 2 + number(4));
        if (number(2) == 0) {
            addLines(model);
        }
        int more = number(7);
        int[] hidden = new int[model.w * model.h];
        for (int cell = 0; cell < hidden.length; cell++) {
            hidden[cell] = 1 + number(model.k);
        }
        for (int i = 0; i < more; i++) {
            model.rules.add(anyRule(model, hidden));
        }
        return model;
    }

    private static void addLines(Model model) {
        for (int row = 0; row < model.h; row++) {
            int[] cells = new int[model.w];
            for (int column = 0; column < model.w; column++) {
                cells[column] = column + model.w * row;
            }
            model.rules.add(new Model.ModelRule("differ", 0, 0, cells));
        }
    }

    private static Model.ModelRule anyRule(Model model, int[] hidden) {
        String word = WORDS[number(WORDS.length)];
        int size = word.equals("less") ? 2 : word.equals("is") ? 1 : 1 + number(Math.min(5, hidden.length));
        int[] cells = new int[size];
        int sum = 0;
        int product = 1;
        for (int i = 0; i < size; i++) {
            int cell = number(hidden.length);
            while (contains(cells, i, cell)) {
                cell = (cell + 1) % hidden.length;
            }
            cells[i] = cell;
            sum += hidden[cell];
            product *= hidden[cell];
        }
        boolean isWild = number(6) == 0;
        switch (word) {
            case "sum":
                return new Model.ModelRule(word, isWild ? number(30) : sum, 0, cells);
            case "product":
                return new Model.ModelRule(word, isWild ? number(70) : product, 0, cells);
            case "see":
                return new Model.ModelRule(word, 1 + number(isWild ? 5 : Math.min(3, size)), 0, cells);
            case "count":
                return new Model.ModelRule(word, 1 + number(model.k), number(isWild ? 6 : size + 1), cells);
            case "is":
                return new Model.ModelRule(word, hidden[cells[0]], 0, cells);
            case "apart":
                return new Model.ModelRule(word, 1 + number(isWild ? 4 : 2), 0, cells);
            default:
                return new Model.ModelRule(word, 0, 0, cells);
        }
    }

    private static boolean contains(int[] cells, int length, int cell) {
        for (int i = 0; i < length; i++) {
            if (cells[i] == cell) {
                return true;
            }
        }
        return false;
    }

    private static void testPuzzle() {
        Model model = puzzle();
        RiddleMill mill = new RiddleMill();
        story = model.text();
        same("compile", 0, Check.compile(mill, model.text()));
        for (int call = 0; call < CALLS; call++) {
            doCall(model, mill);
            compare(model, mill);
        }
    }

    private static void same(String what, long due, long got) {
        if (due != got) {
            Check.same(what + " behind " + story, due, got);
        }
    }

    private static void doCall(Model model, RiddleMill mill) {
        int cells = model.w * model.h;
        int what = number(20);
        int with = number(65536);
        story = story + " " + what + "/" + with;
        if (what < 6) {
            int cell = with % cells;
            int value = with / 64 % (model.k + 1);
            same("put", model.grid[cell], mill.put(cell, value));
            model.grid[cell] = value;
        } else if (what < 8) {
            same("search", model.search(1 + with % 30), mill.search(1 + with % 30));
        } else if (what == 8) {
            same("look", model.look(), mill.look());
        } else if (what < 12) {
            same("step", model.step() ? 1 : 0, mill.step() ? 1 : 0);
        } else if (what < 14) {
            same("reason", model.reason(), mill.reason());
        } else if (what == 14) {
            same("make", model.make(with), mill.make(with));
        } else if (what == 15) {
            same("change", model.change(with % 2), mill.change(with % 2));
        } else if (what == 16) {
            Arrays.fill(model.grid, 0);
            mill.clear();
        } else if (!model.rules.isEmpty()) {
            int rule = with % model.rules.size();
            if (what == 17) {
                model.rules.remove(rule);
                same("drop", model.rules.size(), mill.drop(rule));
            } else {
                same("isNeeded", model.isNeeded(rule) ? 1 : 0, mill.isNeeded(rule) ? 1 : 0);
            }
        }
    }

    private static void compare(Model model, RiddleMill mill) {
        int cells = model.w * model.h;
        int filled = cells;
        int possible = 0;
        for (int cell = 0; cell < cells; cell++) {
            same("value", model.grid[cell], mill.value(cell));
            same("possible", model.sets[cell], mill.possible(cell));
            filled -= model.grid[cell] == 0 ? 1 : 0;
            possible += Integer.bitCount(model.sets[cell]);
        }
        int[] counts = {model.w, model.h, model.k, model.rules.size(), model.countGivens(), filled,
            model.countBroken(), model.solutions.size(), model.tries, 0, model.text().length()};
        mill.write();
        for (int what = 0; what < counts.length; what++) {
            same("count " + what, counts[what], mill.count(what));
        }
        Check.same("text behind " + story, model.text(), Check.paper(mill));
        for (int rule = 0; rule < model.rules.size(); rule++) {
            Model.ModelRule told = model.rules.get(rule);
            same("broken rule " + rule, model.broken(told, model.grid) ? 1 : 0, mill.rule(rule, 9));
            same("cells of rule " + rule, told.cells.length, mill.rule(rule, 3));
            same("first cell of rule " + rule, told.cells[0], mill.rule(rule, 4));
            Check.same("word of rule " + rule, told.word, WORDS[mill.rule(rule, 0)]);
        }
        for (int index = 0; index < model.solutions.size(); index++) {
            for (int cell = 0; cell < cells; cell++) {
                same("solution " + index, model.solutions.get(index)[cell], mill.solution(index, cell));
            }
        }
        Model.Deduction hint = model.hint();
        same("hint: rule", hint.rule(), mill.hint(0));
        same("hint: cell", hint.cell(), mill.hint(1));
        same("hint: value", hint.value(), mill.hint(2));
        same("hint: grade", hint.grade(), mill.hint(3));
        same("passes", model.passes, mill.reasoned(0));
        same("grade", model.greatestGrade, mill.reasoned(1));
        same("sure cells", model.countSets(1), mill.reasoned(2));
        same("dead cells", model.countSets(0), mill.reasoned(3));
        Check.sameDouble("doubt", (double) possible / (cells * model.k), mill.doubt());
    }
}
