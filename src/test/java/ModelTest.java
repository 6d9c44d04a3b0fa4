import java.util.Arrays;

/** Promises 6 to 25: the mill does what a slow and plain second one does, over many puzzles. */
public final class ModelTest {
    private static final int PUZZLES = 1500;
    private static final int CALLS = 25;

    private static final Puzzles puzzles = new Puzzles(20261119L);
    private static String story = "";

    private ModelTest() {
    }

    public static void main(String[] args) {
        for (int i = 0; i < PUZZLES; i++) {
            testPuzzle();
        }
        Check.end();
    }

    private static void testPuzzle() {
        Model model = puzzles.next();
        RiddleMill mill = new RiddleMill();
        story = model.text();
        same("compile", 0, Check.compile(mill, model.text()));
        for (int call = 0; call < CALLS; call++) {
            doCall(model, mill);
            compare(model, mill);
        }
    }

    private static void same(String what, long due, long got) {
        if (due != got) {
            Check.same(what + " behind " + story, due, got);
        }
    }

    private static void doCall(Model model, RiddleMill mill) {
        int cells = model.w * model.h;
        int what = puzzles.number(20);
        int with = puzzles.number(65536);
        story = story + " " + what + "/" + with;
        if (what < 6) {
            int cell = with % cells;
            int value = with / 64 % (model.k + 1);
            same("put", model.grid[cell], mill.put(cell, value));
            model.grid[cell] = value;
        } else if (what < 8) {
            same("search", model.search(1 + with % 30), mill.search(1 + with % 30));
        } else if (what == 8) {
            same("look", model.look(), mill.look());
        } else if (what < 12) {
            same("step", model.step() ? 1 : 0, mill.step() ? 1 : 0);
        } else if (what < 14) {
            same("reason", model.reason(), mill.reason());
        } else if (what == 14) {
            same("make", model.make(with), mill.make(with));
        } else if (what == 15) {
            same("change", model.change(with % 2), mill.change(with % 2));
        } else if (what == 16) {
            Arrays.fill(model.grid, 0);
            mill.clear();
        } else if (!model.rules.isEmpty()) {
            int rule = with % model.rules.size();
            if (what == 17) {
                model.rules.remove(rule);
                same("drop", model.rules.size(), mill.drop(rule));
            } else {
                same("isNeeded", model.isNeeded(rule) ? 1 : 0, mill.isNeeded(rule) ? 1 : 0);
            }
        }
    }

    private static void compare(Model model, RiddleMill mill) {
        int cells = model.w * model.h;
        int filled = cells;
        int possible = 0;
        for (int cell = 0; cell < cells; cell++) {
            same("value", model.grid[cell], mill.value(cell));
            same("possible", model.sets[cell], mill.possible(cell));
            filled -= model.grid[cell] == 0 ? 1 : 0;
            possible += Integer.bitCount(model.sets[cell]);
        }
        int[] counts = {model.w, model.h, model.k, model.rules.size(), model.countGivens(), filled,
            model.countBroken(), model.solutions.size(), model.tries, 0, model.text().length()};
        mill.write();
        for (int what = 0; what < counts.length; what++) {
            same("count " + what, counts[what], mill.count(what));
        }
        Check.same("text behind " + story, model.text(), Check.paper(mill));
        for (int rule = 0; rule < model.rules.size(); rule++) {
            Model.ModelRule told = model.rules.get(rule);
            same("broken rule " + rule, model.broken(told, model.grid) ? 1 : 0, mill.rule(rule, 9));
            same("cells of rule " + rule, told.cells.length, mill.rule(rule, 3));
            same("first cell of rule " + rule, told.cells[0], mill.rule(rule, 4));
            Check.same("word of rule " + rule, told.word, Puzzles.WORDS[mill.rule(rule, 0)]);
        }
        for (int index = 0; index < model.solutions.size(); index++) {
            for (int cell = 0; cell < cells; cell++) {
                same("solution " + index, model.solutions.get(index)[cell], mill.solution(index, cell));
            }
        }
        Model.Deduction hint = model.hint();
        same("hint: rule", hint.rule(), mill.hint(0));
        same("hint: cell", hint.cell(), mill.hint(1));
        same("hint: value", hint.value(), mill.hint(2));
        same("hint: grade", hint.grade(), mill.hint(3));
        same("passes", model.passes, mill.reasoned(0));
        same("grade", model.greatestGrade, mill.reasoned(1));
        same("sure cells", model.countSets(1), mill.reasoned(2));
        same("dead cells", model.countSets(0), mill.reasoned(3));
        Check.sameDouble("doubt", (double) possible / (cells * model.k), mill.doubt());
    }
}
