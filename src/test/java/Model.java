import java.util.ArrayList;
import java.util.List;

/** A slow and plain second mill, written from the document alone, which the real one is held to. */
final class Model {
    /** A rule as the document tells it. */
    static final class ModelRule {
        final String word;
        final int number;
        final int times;
        final int[] cells;

        ModelRule(String word, int number, int times, int[] cells) {
            this.word = word;
            this.number = number;
            this.times = times;
            this.cells = cells;
        }
    }

    /** A deduction: its rule, cell, value and grade. */
    record Deduction(int rule, int cell, int value, int grade) {
    }

    int w;
    int h;
    int k;
    int[] grid;
    int[] sets;
    List<ModelRule> rules = new ArrayList<>();
    List<int[]> solutions = new ArrayList<>();
    int tries;
    int passes;
    int greatestGrade;

    Model(int w, int h, int k) {
        this.w = w;
        this.h = h;
        this.k = k;
        grid = new int[w * h];
        look();
    }

    // ---- what the words mean

    private static boolean holds(ModelRule rule, int[] values) {
        int[] v = new int[rule.cells.length];
        int sum = 0;
        int product = 1;
        int having = 0;
        for (int i = 0; i < v.length; i++) {
            v[i] = values[rule.cells[i]];
            sum += v[i];
            product *= v[i];
            having += v[i] == rule.number ? 1 : 0;
        }
        switch (rule.word) {
            case "sum":
                return sum == rule.number;
            case "product":
                return product == rule.number;
            case "count":
                return having == rule.times;
            case "is":
                return v[0] == rule.number;
            default:
                return holdsInOrder(rule, v);
        }
    }

    private static boolean holdsInOrder(ModelRule rule, int[] v) {
        int seen = 0;
        for (int j = 0; j < v.length; j++) {
            boolean isSeen = true;
            for (int i = 0; i < j; i++) {
                isSeen &= v[i] < v[j];
                if (rule.word.equals("differ") && v[i] == v[j] || rule.word.equals("same") && v[i] != v[j]) {
                    return false;
                }
            }
            seen += isSeen ? 1 : 0;
            boolean isOdd = v[j] % 2 == 1;
            if (rule.word.equals("odd") && !isOdd || rule.word.equals("even") && isOdd) {
                return false;
            }
            if (j == 0) {
                continue;
            }
            int step = v[j] - v[j - 1];
            if ((rule.word.equals("up") || rule.word.equals("less")) && step <= 0) {
                return false;
            }
            if (rule.word.equals("apart") && Math.abs(step) < rule.number) {
                return false;
            }
        }
        return !rule.word.equals("see") || seen == rule.number;
    }

    boolean broken(ModelRule rule, int[] values) {
        List<Integer> filled = new ArrayList<>();
        int sum = 0;
        int product = 1;
        int having = 0;
        for (int cell : rule.cells) {
            int value = values[cell];
            if (value != 0) {
                filled.add(value);
                sum += value;
                product *= value;
                having += value == rule.number ? 1 : 0;
            }
        }
        int empty = rule.cells.length - filled.size();
        switch (rule.word) {
            case "sum":
                return sum + empty > rule.number || sum + k * empty < rule.number;
            case "product":
                return rule.number % product != 0 || empty == 0 && product != rule.number;
            case "count":
                return having > rule.times || having + empty < rule.times;
            case "see":
            case "less":
                return empty == 0 && !holds(rule, values);
            default:
                return brokenByPair(rule, values);
        }
    }

    private static boolean brokenByPair(ModelRule rule, int[] values) {
        for (int j = 0; j < rule.cells.length; j++) {
            int b = values[rule.cells[j]];
            if (b == 0) {
                continue;
            }
            if (rule.word.equals("odd") && b % 2 == 0 || rule.word.equals("even") && b % 2 == 1
                    || rule.word.equals("is") && b != rule.number) {
                return true;
            }
            for (int i = 0; i < j; i++) {
                int a = values[rule.cells[i]];
                if (a == 0) {
                    continue;
                }
                if (rule.word.equals("differ") && a == b || rule.word.equals("same") && a != b
                        || rule.word.equals("up") && b - a < j - i
                        || rule.word.equals("apart") && i == j - 1 && Math.abs(a - b) < rule.number) {
                    return true;
                }
            }
        }
        return false;
    }

    // ---- searching

    private int[] values;
    private List<int[]> found;
    private int made;

    /** Returns how many were found, -1 if it gave up; the solutions are in found then. */
    private int find(List<ModelRule> all, int[] given, int[] begin, int most) {
        values = new int[w * h];
        found = new ArrayList<>();
        made = 0;
        int ended = go(all, given, begin, most, 0);
        return ended < 0 ? -1 : found.size();
    }

    // 0 to go on, 1 as all were found, -1 if it gave up
    private int go(List<ModelRule> all, int[] given, int[] begin, int most, int cell) {
        if (cell == values.length) {
            found.add(values.clone());
            return found.size() == most ? 1 : 0;
        }
        for (int value : choices(given[cell], begin[cell])) {
            if (made == 5000) {
                return -1;
            }
            made++;
            values[cell] = value;
            boolean dropped = false;
            for (ModelRule rule : all) {
                boolean has = false;
                for (int other : rule.cells) {
                    has |= other == cell;
                }
                dropped |= has && broken(rule, values);
            }
            int ended = dropped ? 0 : go(all, given, begin, most, cell + 1);
            if (ended != 0) {
                return ended;
            }
        }
        values[cell] = 0;
        return 0;
    }

    private List<Integer> choices(int given, int begin) {
        List<Integer> choices = new ArrayList<>();
        if (given != 0) {
            choices.add(given);
            return choices;
        }
        for (int value = begin; value <= k; value++) {
            choices.add(value);
        }
        for (int value = 1; value < begin; value++) {
            choices.add(value);
        }
        return choices;
    }

    private int[] ones() {
        int[] ones = new int[w * h];
        java.util.Arrays.fill(ones, 1);
        return ones;
    }

    int search(int most) {
        int answer = find(rules, grid, ones(), most);
        solutions = answer < 0 ? new ArrayList<>() : found;
        tries = made;
        return answer;
    }

    private boolean isSure(List<ModelRule> all) {
        return find(all, new int[w * h], ones(), 2) == 1;
    }

    boolean isNeeded(int rule) {
        List<ModelRule> others = new ArrayList<>(rules);
        others.remove(rule);
        return !(isSure(rules) && isSure(others));
    }

    // ---- reasoning

    int look() {
        sets = new int[w * h];
        int possible = 0;
        for (int cell = 0; cell < sets.length; cell++) {
            sets[cell] = grid[cell] == 0 ? (1 << k) - 1 : 1 << grid[cell] - 1;
            possible += Integer.bitCount(sets[cell]);
        }
        passes = 0;
        greatestGrade = 0;
        return possible;
    }

    private boolean isPossible(ModelRule rule, int cell, int value, int[] trial, int place) {
        if (place == rule.cells.length) {
            return holds(rule, trial);
        }
        int other = rule.cells[place];
        for (int v = 1; v <= k; v++) {
            boolean fits = other == cell ? v == value : (sets[other] >> v - 1 & 1) == 1;
            if (fits) {
                trial[other] = v;
                if (isPossible(rule, cell, value, trial, place + 1)) {
                    return true;
                }
            }
        }
        return false;
    }

    /** Does a pass, but at most as many deductions as told; returns those it did. */
    private List<Deduction> pass(int most, boolean reallyDo) {
        List<Deduction> done = new ArrayList<>();
        for (int i = 0; i < rules.size(); i++) {
            ModelRule rule = rules.get(i);
            for (int cell : rule.cells) {
                for (int value = 1; value <= k && done.size() < most; value++) {
                    if ((sets[cell] >> value - 1 & 1) == 0
                            || isPossible(rule, cell, value, new int[w * h], 0)) {
                        continue;
                    }
                    int grade = 0;
                    for (int other : rule.cells) {
                        grade += Integer.bitCount(sets[other]) > 1 ? 1 : 0;
                    }
                    done.add(new Deduction(i, cell, value, grade));
                    if (reallyDo) {
                        sets[cell] &= ~(1 << value - 1);
                    }
                }
            }
        }
        return done;
    }

    /** The first deduction, all -1 if there is none. */
    Deduction hint() {
        List<Deduction> first = pass(1, false);
        return first.isEmpty() ? new Deduction(-1, -1, -1, -1) : first.get(0);
    }

    boolean step() {
        return !pass(1, true).isEmpty();
    }

    int reason() {
        passes = 0;
        greatestGrade = 0;
        int all = 0;
        List<Deduction> done;
        do {
            done = pass(Integer.MAX_VALUE, true);
            passes++;
            all += done.size();
            for (Deduction deduction : done) {
                greatestGrade = Math.max(greatestGrade, deduction.grade());
            }
        } while (!done.isEmpty());
        return all;
    }

    // ---- making

    private int seed;

    private int draw() {
        seed = (int) ((seed * 1103L + 12345L) % 65536L);
        return seed / 16;
    }

    int make(int newSeed) {
        seed = newSeed;
        List<ModelRule> made = new ArrayList<>();
        for (ModelRule rule : rules) {
            if (!rule.word.equals("is")) {
                made.add(rule);
            }
        }
        int cells = w * h;
        int[] begin = new int[cells];
        for (int cell = 0; cell < cells; cell++) {
            begin[cell] = 1 + draw() % k;
        }
        if (find(made, new int[cells], begin, 1) != 1) {
            return -1;
        }
        int[] solution = found.get(0);
        for (int cell = 0; cell < cells; cell++) {
            made.add(new ModelRule("is", solution[cell], 0, new int[] {cell}));
        }
        int first = draw() % cells;
        for (int turn = 0; turn < cells; turn++) {
            int cell = (first + 7 * turn) % cells;
            int place = 0;
            while (!made.get(place).word.equals("is") || made.get(place).cells[0] != cell) {
                place++;
            }
            ModelRule dropped = made.remove(place);
            if (!isSure(made)) {
                made.add(place, dropped);
            }
        }
        rules = made;
        grid = new int[cells];
        solutions = new ArrayList<>();
        look();
        return countGivens();
    }

    int change(int sort) {
        int[] to = new int[w * h];
        for (int c = 0; c < w; c++) {
            for (int r = 0; r < h; r++) {
                to[c + w * r] = sort == 0 ? h - 1 - r + h * c : w - 1 - c + w * r;
            }
        }
        int[] moved = new int[w * h];
        for (int cell = 0; cell < w * h; cell++) {
            moved[to[cell]] = grid[cell];
        }
        List<ModelRule> movedRules = new ArrayList<>();
        for (ModelRule rule : rules) {
            int[] cells = new int[rule.cells.length];
            for (int i = 0; i < cells.length; i++) {
                cells[i] = to[rule.cells[i]];
            }
            movedRules.add(new ModelRule(rule.word, rule.number, rule.times, cells));
        }
        rules = movedRules;
        grid = moved;
        if (sort == 0) {
            int old = w;
            w = h;
            h = old;
        }
        solutions = new ArrayList<>();
        look();
        return w * h;
    }

    int countGivens() {
        int givens = 0;
        for (ModelRule rule : rules) {
            givens += rule.word.equals("is") ? 1 : 0;
        }
        return givens;
    }

    int countBroken() {
        int broken = 0;
        for (ModelRule rule : rules) {
            broken += broken(rule, grid) ? 1 : 0;
        }
        return broken;
    }

    int countSets(int size) {
        int cells = 0;
        for (int set : sets) {
            cells += Integer.bitCount(set) == size ? 1 : 0;
        }
        return cells;
    }

    String text() {
        StringBuilder text = new StringBuilder("grid " + w + " " + h + " " + k + ";");
        for (ModelRule rule : rules) {
            text.append(rule.word);
            if (List.of("sum", "product", "see", "count", "apart").contains(rule.word)) {
                text.append(' ').append(rule.number);
            }
            if (rule.word.equals("count")) {
                text.append(' ').append(rule.times);
            }
            for (int cell : rule.cells) {
                text.append(' ').append((char) ('a' + cell % w)).append(cell / w + 1);
            }
            if (rule.word.equals("is")) {
                text.append(' ').append(rule.number);
            }
            text.append(';');
        }
        return text.toString();
    }
}
