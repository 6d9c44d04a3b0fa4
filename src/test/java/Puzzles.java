/** Many puzzles for tests, and numbers, the same ones in each run of the tests. */
final class Puzzles {
    static final String[] WORDS = {"differ", "sum", "product", "less", "up", "see", "odd", "even",
        "count", "is", "apart", "same"};

    private long state;

    Puzzles(long state) {
        this.state = state;
    }

    int number(int bound) {
        state = state * 6364136223846793005L + 1442695040888963407L;
        return (int) ((state >>> 33) % bound);
    }

    /** A puzzle, most of the rules of which hold for a hidden solution. */
    Model next() {
        Model model = new Model(2 + number(4), 2 + number(4), 2 + number(4));
        if (number(2) == 0) {
            addLines(model);
        }
        int more = number(7);
        int[] hidden = new int[model.w * model.h];
        for (int cell = 0; cell < hidden.length; cell++) {
            hidden[cell] = 1 + number(model.k);
        }
        for (int i = 0; i < more; i++) {
            model.rules.add(anyRule(model, hidden));
        }
        return model;
    }

    private static void addLines(Model model) {
        for (int row = 0; row < model.h; row++) {
            int[] cells = new int[model.w];
            for (int column = 0; column < model.w; column++) {
                cells[column] = column + model.w * row;
            }
            model.rules.add(new Model.ModelRule("differ", 0, 0, cells));
        }
    }

    private Model.ModelRule anyRule(Model model, int[] hidden) {
        String word = WORDS[number(WORDS.length)];
        int size = word.equals("less") ? 2 : word.equals("is") ? 1 : 1 + number(Math.min(5, hidden.length));
        int[] cells = new int[size];
        int sum = 0;
        int product = 1;
        for (int i = 0; i < size; i++) {
            int cell = number(hidden.length);
            while (contains(cells, i, cell)) {
                cell = (cell + 1) % hidden.length;
            }
            cells[i] = cell;
            sum += hidden[cell];
            product *= hidden[cell];
        }
        boolean isWild = number(6) == 0;
        switch (word) {
            case "sum":
                return new Model.ModelRule(word, isWild ? number(30) : sum, 0, cells);
            case "product":
                return new Model.ModelRule(word, isWild ? number(70) : product, 0, cells);
            case "see":
                return new Model.ModelRule(word, 1 + number(isWild ? 5 : Math.min(3, size)), 0, cells);
            case "count":
                return new Model.ModelRule(word, 1 + number(model.k), number(isWild ? 6 : size + 1), cells);
            case "is":
                return new Model.ModelRule(word, hidden[cells[0]], 0, cells);
            case "apart":
                return new Model.ModelRule(word, 1 + number(isWild ? 4 : 2), 0, cells);
            default:
                return new Model.ModelRule(word, 0, 0, cells);
        }
    }

    private static boolean contains(int[] cells, int length, int cell) {
        for (int i = 0; i < length; i++) {
            if (cells[i] == cell) {
                return true;
            }
        }
        return false;
    }
}
