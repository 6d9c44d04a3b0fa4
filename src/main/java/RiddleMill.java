/**
 * A mill for number puzzles: a puzzle is read from a tape, filled by hand, searched for its
 * solutions, reasoned about step by step, and new puzzles of the same kind are made of it.
 *
 * <p>All rows are made once, by the constructors, and used again: no call makes an object, but for
 * the exception that it throws.
 */
public final class RiddleMill {
    private static final int NONE = -1;
    private static final int MOST_BYTES = 1600;
    private static final int BYTES_OF_A_FEED = 20;
    private static final int LEAST_SIZE = 2;
    private static final int MOST_SIZE = 5;
    private static final int MOST_CELLS = 25;
    private static final int MOST_CELLS_OF_A_RULE = 5;
    private static final int MOST_RULES_OF_A_TEXT = 40;
    // A puzzle that is made can have a rule is for each cell behind the rules of its text.
    private static final int MOST_RULES = 65;
    // Each rule is shorter than 30 bytes, and so is the part ahead of them.
    private static final int MOST_BYTES_OF_PAPER = 1980;
    private static final int MOST_SOLUTIONS = 30;
    private static final int MOST_TRIES = 5000;
    private static final int MOST_SEED = 65535;
    private static final int TURN = 0;
    private static final int MIRROR = 1;

    private final Tape tape = new Tape();
    private final PuzzleReader reader = new PuzzleReader();
    private final Paper paper = new Paper();
    private final Search kept = new Search();
    // Searches that are no search() go here, so that they leave the kept solutions alone.
    private final Search probe = new Search();
    private final Reasoner reasoner = new Reasoner();
    private final Maker maker = new Maker();
    private Puzzle puzzle = new Puzzle();
    // The next puzzle is built here, so that a failure leaves the puzzle as it was.
    private Puzzle draft = new Puzzle();

    /** Creates a mill without a puzzle, with an empty tape and an empty paper. */
    public RiddleMill() {
    }

    // ---- puzzles

    /** Appends twenty bytes to the tape; returns the number of its bytes. */
    public int feed(int a, int b, int c, int d, int e) throws IllegalStateException {
        if (tape.length + BYTES_OF_A_FEED > MOST_BYTES) {
            throw new IllegalStateException("the tape would be too long");
        }
        tape.appendFour(a);
        tape.appendFour(b);
        tape.appendFour(c);
        tape.appendFour(d);
        tape.appendFour(e);
        return tape.length;
    }

    /** Shortens the tape to its first n bytes; returns n. */
    public int trim(int n) throws IllegalArgumentException {
        if (n < 0 || n > tape.length) {
            throw new IllegalArgumentException("the tape is shorter");
        }
        tape.length = n;
        return n;
    }

    /** Compiles the tape, which is empty then; returns 0, or the error, 1 to 4. */
    public int compile() {
        if (reader.readInto(draft, tape)) {
            takeDraft();
        }
        tape.length = 0;
        return reader.error;
    }

    /** Returns the position of the error of the latest compile, -1 for none. */
    public int errorAt() {
        return reader.errorAt;
    }

    /** Returns one of the mill's eleven counts. */
    public int count(int what) throws IndexOutOfBoundsException {
        switch (what) {
            case 0:
                return puzzle.columns;
            case 1:
                return puzzle.rows;
            case 2:
                return puzzle.highest;
            case 3:
                return puzzle.ruleCount;
            case 4:
                return puzzle.countGivens();
            case 5:
                return puzzle.countFilled();
            case 6:
                return puzzle.countBroken();
            case 7:
                return kept.found;
            case 8:
                return kept.tries;
            case 9:
                return tape.length;
            case 10:
                return paper.length;
            default:
                throw new IndexOutOfBoundsException("there is no such count");
        }
    }

    /** Returns one of the ten things that are told of a rule. */
    public int rule(int rule, int what) throws IndexOutOfBoundsException {
        requireRule(rule);
        Rule told = puzzle.rules[rule];
        switch (what) {
            case 0:
                return told.kind.number;
            case 1:
                return told.number;
            case 2:
                return told.times;
            case 3:
                return told.size;
            case 4:
            case 5:
            case 6:
            case 7:
            case 8:
                return told.cellOrNone(what - 4);
            case 9:
                return told.isBroken(puzzle.grid, puzzle.highest) ? 1 : 0;
            default:
                throw new IndexOutOfBoundsException("nothing such is told of a rule");
        }
    }

    /** Drops a rule; returns the number of rules that are left. */
    public int drop(int rule) throws IndexOutOfBoundsException {
        requireRule(rule);
        puzzle.removeRule(rule);
        return puzzle.ruleCount;
    }

    /** Writes the puzzle on the paper; returns the number of bytes. */
    public int write() throws IllegalStateException {
        requirePuzzle();
        paper.show(puzzle);
        return paper.length;
    }

    /** Returns the byte at a place on the paper. */
    public int byteAt(int k) throws IndexOutOfBoundsException {
        if (k < 0 || k >= paper.length) {
            throw new IndexOutOfBoundsException("there is no such place on the paper");
        }
        return paper.bytes[k];
    }

    // ---- the grid

    /** Fills a cell, or empties it with 0; returns the value before. */
    public int put(int cell, int value) throws IndexOutOfBoundsException, IllegalArgumentException {
        requireCell(cell);
        if (value < 0 || value > puzzle.highest) {
            throw new IllegalArgumentException("there is no such value");
        }
        int before = puzzle.grid[cell];
        puzzle.grid[cell] = value;
        return before;
    }

    /** Returns the value of a cell, 0 for none. */
    public int value(int cell) throws IndexOutOfBoundsException {
        requireCell(cell);
        return puzzle.grid[cell];
    }

    /** Empties all cells; returns how many were filled. */
    public int clear() {
        int filled = puzzle.countFilled();
        puzzle.emptyGrid();
        return filled;
    }

    // ---- searching

    /** Searches for solutions and keeps them; returns how many, -1 if it gave up. */
    public int search(int most) throws IllegalArgumentException, IllegalStateException {
        if (most < 1 || most > MOST_SOLUTIONS) {
            throw new IllegalArgumentException("1 to 30 solutions can be looked for");
        }
        requirePuzzle();
        return kept.findInGrid(puzzle, most);
    }

    /** Returns the value of a cell in a solution that is kept. */
    public int solution(int index, int cell) throws IndexOutOfBoundsException {
        if (index < 0 || index >= kept.found) {
            throw new IndexOutOfBoundsException("there is no such solution");
        }
        requireCell(cell);
        return kept.solutions[index][cell];
    }

    /** Tells whether a rule is needed for the puzzle to have just one solution. */
    public boolean isNeeded(int rule) throws IndexOutOfBoundsException {
        requireRule(rule);
        return !(probe.findsJustOne(puzzle, NONE) && probe.findsJustOne(puzzle, rule));
    }

    // ---- reasoning

    /** Begins reasoning anew; returns how many values are possible in all. */
    public int look() {
        reasoner.begin(puzzle);
        return reasoner.countValues(puzzle);
    }

    /** Returns the set of the possible values of a cell. */
    public int possible(int cell) throws IndexOutOfBoundsException {
        requireCell(cell);
        return reasoner.sets[cell];
    }

    /** Tells the first deduction that a pass would do; -1 if there is none. */
    public int hint(int what) throws IndexOutOfBoundsException {
        if (what < 0 || what > 3) {
            throw new IndexOutOfBoundsException("nothing such is told of a deduction");
        }
        if (!reasoner.findFirst(puzzle)) {
            return NONE;
        }
        switch (what) {
            case 0:
                return reasoner.firstRule;
            case 1:
                return reasoner.firstCell;
            case 2:
                return reasoner.firstValue;
            default:
                return reasoner.firstGrade;
        }
    }

    /** Does the deduction that hint() tells; returns whether there was one. */
    public boolean step() {
        if (!reasoner.findFirst(puzzle)) {
            return false;
        }
        reasoner.takeOut(reasoner.firstCell, reasoner.firstValue);
        return true;
    }

    /** Does passes until one does no deduction; returns how many deductions were done. */
    public int reason() {
        return reasoner.doPasses(puzzle);
    }

    /** Returns what became of reasoning: passes, greatest grade, sure cells, dead cells. */
    public int reasoned(int what) throws IndexOutOfBoundsException {
        switch (what) {
            case 0:
                return reasoner.passes;
            case 1:
                return reasoner.greatestGrade;
            case 2:
                return reasoner.countCellsWith(puzzle, 1);
            case 3:
                return reasoner.countCellsWith(puzzle, 0);
            default:
                throw new IndexOutOfBoundsException("nothing such is told of reasoning");
        }
    }

    // ---- making

    /** Makes a puzzle of the same kind; returns how many rules is it has, -1 if it can't. */
    public int make(int seed) throws IllegalArgumentException, IllegalStateException {
        if (seed < 0 || seed > MOST_SEED) {
            throw new IllegalArgumentException("a seed is 0 to 65535");
        }
        requirePuzzle();
        if (!maker.giveAll(draft, puzzle, probe, seed)) {
            return NONE;
        }
        maker.dropGivens(draft, probe);
        takeDraft();
        return puzzle.countGivens();
    }

    /** Turns the puzzle and its grid clockwise (0), or mirrors them (1); returns its cells. */
    public int change(int sort) throws IllegalArgumentException, IllegalStateException {
        if (sort != TURN && sort != MIRROR) {
            throw new IllegalArgumentException("there is no such change");
        }
        requirePuzzle();
        draft.becomeMoved(puzzle, sort == TURN);
        takeDraft();
        return puzzle.cellCount();
    }

    /** Returns the part of the values that are possible, of all values of all cells. */
    public double doubt() {
        int all = puzzle.cellCount() * puzzle.highest;
        if (all < 1) {
            return 0.0;
        }
        return (double) reasoner.countValues(puzzle) / (double) all;
    }

    /** Computes a checksum of all that the mill tells. */
    public long digest() {
        long d = 457;
        for (int what = 0; what <= 10; what++) {
            d = d * 31 + count(what);
        }
        for (int rule = 0; rule < puzzle.ruleCount; rule++) {
            for (int what = 0; what <= 9; what++) {
                d = d * 31 + rule(rule, what);
            }
        }
        for (int cell = 0; cell < puzzle.cellCount(); cell++) {
            d = d * 31 + puzzle.grid[cell];
            d = d * 31 + reasoner.sets[cell];
        }
        for (int index = 0; index < kept.found; index++) {
            for (int cell = 0; cell < puzzle.cellCount(); cell++) {
                d = d * 31 + kept.solutions[index][cell];
            }
        }
        for (int what = 0; what <= 3; what++) {
            d = d * 31 + reasoned(what);
        }
        for (int k = 0; k < paper.length; k++) {
            d = d * 31 + paper.bytes[k];
        }
        return d;
    }

    private void requirePuzzle() {
        if (!puzzle.isThere()) {
            throw new IllegalStateException("there is no puzzle");
        }
    }

    private void requireRule(int rule) {
        if (rule < 0 || rule >= puzzle.ruleCount) {
            throw new IndexOutOfBoundsException("there is no such rule");
        }
    }

    private void requireCell(int cell) {
        if (cell < 0 || cell >= puzzle.cellCount()) {
            throw new IndexOutOfBoundsException("there is no such cell");
        }
    }

    private void takeDraft() {
        Puzzle old = puzzle;
        puzzle = draft;
        draft = old;
        kept.found = 0;
        reasoner.begin(puzzle);
    }

    /** What a rule is about: its number in rule(), its word, and what stands behind it. */
    private enum Kind {
        DIFFER(0, "differ", 0, 0),
        SUM(1, "sum", 1, 0),
        PRODUCT(2, "product", 1, 0),
        LESS(3, "less", 0, 2),
        UP(4, "up", 0, 0),
        SEE(5, "see", 1, 0),
        ODD(6, "odd", 0, 0),
        EVEN(7, "even", 0, 0),
        COUNT(8, "count", 2, 0),
        IS(9, "is", 0, 1),
        APART(10, "apart", 1, 0),
        SAME(11, "same", 0, 0);

        private static final Kind[] ALL = values();

        final int number;
        final String word;
        final int numbersAhead;
        // 0: as many as are told, but one at least.
        final int exactCells;

        Kind(int number, String word, int numbersAhead, int exactCells) {
            this.number = number;
            this.word = word;
            this.numbersAhead = numbersAhead;
            this.exactCells = exactCells;
        }
    }

    /** A rule about one to five cells. */
    private static final class Rule {
        Kind kind = Kind.DIFFER;
        int number;
        int times;
        int size;
        final int[] cells = new int[MOST_CELLS_OF_A_RULE];
        // One bit for each cell of the rule, as searches ask for them all the time.
        private int mask;

        void begin(Kind newKind) {
            kind = newKind;
            number = 0;
            times = 0;
            size = 0;
            mask = 0;
        }

        void addCell(int cell) {
            if (size < cells.length) {
                cells[size] = cell;
                size++;
                mask |= 1 << cell;
            }
        }

        boolean hasCell(int cell) {
            return ((mask >> cell) & 1) != 0;
        }

        boolean isGivenOf(int cell) {
            return kind == Kind.IS && hasCell(cell);
        }

        int cellOrNone(int place) {
            return place >= 0 && place < size ? cells[place] : NONE;
        }

        // Of a rule of the same kind, behind begin.
        void takeParts(Rule other) {
            number = other.number;
            times = other.times;
            for (int i = 0; i < other.size; i++) {
                addCell(other.cells[i]);
            }
        }

        void moveCells(int[] places) {
            mask = 0;
            for (int i = 0; i < size; i++) {
                cells[i] = places[cells[i]];
                mask |= 1 << cells[i];
            }
        }

        /** Whether the cells that are filled (not 0) break the rule, others being empty. */
        boolean isBroken(int[] values, int highest) {
            switch (kind) {
                case DIFFER:
                    return hasPair(values, true);
                case SUM:
                    return breaksSum(values, highest);
                case PRODUCT:
                    return breaksProduct(values);
                case LESS:
                case UP:
                    return breaksOrder(values);
                case SEE:
                    return breaksSight(values);
                case ODD:
                    return hasRemainder(values, 0);
                case EVEN:
                    return hasRemainder(values, 1);
                case COUNT:
                    return breaksCount(values);
                case IS:
                    return breaksIs(values);
                case APART:
                    return breaksApart(values);
                default:
                    return hasPair(values, false);
            }
        }

        private boolean hasPair(int[] values, boolean equal) {
            for (int j = 1; j < size; j++) {
                int second = values[cells[j]];
                for (int i = 0; i < j && second != 0; i++) {
                    int first = values[cells[i]];
                    if (first != 0 && (first == second) == equal) {
                        return true;
                    }
                }
            }
            return false;
        }

        private boolean breaksSum(int[] values, int highest) {
            int sum = 0;
            int empty = 0;
            for (int i = 0; i < size; i++) {
                int value = values[cells[i]];
                sum += value;
                if (value == 0) {
                    empty++;
                }
            }
            return sum + empty > number || sum + highest * empty < number;
        }

        private boolean breaksProduct(int[] values) {
            int product = 1;
            boolean hasEmpty = false;
            for (int i = 0; i < size; i++) {
                int value = values[cells[i]];
                if (value > 0) {
                    product *= value;
                } else {
                    hasEmpty = true;
                }
            }
            if (product < 1 || number % product != 0) {
                return true;
            }
            return !hasEmpty && product != number;
        }

        // The places between two cells of up need room, too; of less there are none between.
        private boolean breaksOrder(int[] values) {
            for (int j = 1; j < size; j++) {
                int second = values[cells[j]];
                for (int i = 0; i < j && second != 0; i++) {
                    int first = values[cells[i]];
                    if (first != 0 && second - first < j - i) {
                        return true;
                    }
                }
            }
            return false;
        }

        private boolean breaksSight(int[] values) {
            int seen = 0;
            int highestSoFar = 0;
            for (int i = 0; i < size; i++) {
                int value = values[cells[i]];
                if (value == 0) {
                    return false;
                }
                if (value > highestSoFar) {
                    highestSoFar = value;
                    seen++;
                }
            }
            return seen != number;
        }

        private boolean hasRemainder(int[] values, int remainder) {
            for (int i = 0; i < size; i++) {
                int value = values[cells[i]];
                if (value != 0 && (value & 1) == remainder) {
                    return true;
                }
            }
            return false;
        }

        private boolean breaksCount(int[] values) {
            int having = 0;
            int empty = 0;
            for (int i = 0; i < size; i++) {
                int value = values[cells[i]];
                if (value == number) {
                    having++;
                } else if (value == 0) {
                    empty++;
                }
            }
            return having > times || having + empty < times;
        }

        private boolean breaksIs(int[] values) {
            for (int i = 0; i < size; i++) {
                int value = values[cells[i]];
                if (value != 0 && value != number) {
                    return true;
                }
            }
            return false;
        }

        private boolean breaksApart(int[] values) {
            for (int i = 1; i < size; i++) {
                int first = values[cells[i - 1]];
                int second = values[cells[i]];
                int distance = first < second ? second - first : first - second;
                if (first != 0 && second != 0 && distance < number) {
                    return true;
                }
            }
            return false;
        }
    }

    /** A grid of cells, 0 where they are empty, and rules about them; at first there is none. */
    private static final class Puzzle {
        int columns;
        int rows;
        int highest;
        final int[] grid = new int[MOST_CELLS];
        final Rule[] rules = new Rule[MOST_RULES];
        int ruleCount;
        private final int[] places = new int[MOST_CELLS];

        Puzzle() {
            for (int i = 0; i < rules.length; i++) {
                rules[i] = new Rule();
            }
        }

        void begin(int newColumns, int newRows, int newHighest) {
            columns = newColumns;
            rows = newRows;
            highest = newHighest;
            ruleCount = 0;
            emptyGrid();
        }

        boolean isThere() {
            return columns > 0;
        }

        int cellCount() {
            return columns * rows;
        }

        void emptyGrid() {
            for (int cell = 0; cell < grid.length; cell++) {
                grid[cell] = 0;
            }
        }

        // The limits of texts and of making leave room for each rule that is added.
        Rule addRule(Kind kind) {
            int place = ruleCount < rules.length ? ruleCount : rules.length - 1;
            ruleCount = place + 1;
            rules[place].begin(kind);
            return rules[place];
        }

        void addRowRules() {
            for (int row = 0; row < rows; row++) {
                Rule rule = addRule(Kind.DIFFER);
                for (int column = 0; column < columns; column++) {
                    rule.addCell(column + columns * row);
                }
            }
        }

        void addColumnRules() {
            for (int column = 0; column < columns; column++) {
                Rule rule = addRule(Kind.DIFFER);
                for (int row = 0; row < rows; row++) {
                    rule.addCell(column + columns * row);
                }
            }
        }

        void addGiven(int cell, int value) {
            Rule rule = addRule(Kind.IS);
            rule.number = value;
            rule.addCell(cell);
        }

        // What is removed goes behind the rules that are left, to be used again.
        void removeRule(int index) {
            Rule removed = rules[index];
            ruleCount--;
            for (int i = index; i < ruleCount; i++) {
                rules[i] = rules[i + 1];
            }
            rules[ruleCount] = removed;
        }

        int findGiven(int cell) {
            for (int i = 0; i < ruleCount; i++) {
                if (rules[i].isGivenOf(cell)) {
                    return i;
                }
            }
            return NONE;
        }

        int countGivens() {
            int givens = 0;
            for (int i = 0; i < ruleCount; i++) {
                if (rules[i].kind == Kind.IS) {
                    givens++;
                }
            }
            return givens;
        }

        int countFilled() {
            int filled = 0;
            for (int cell = 0; cell < cellCount(); cell++) {
                if (grid[cell] != 0) {
                    filled++;
                }
            }
            return filled;
        }

        int countBroken() {
            int broken = 0;
            for (int i = 0; i < ruleCount; i++) {
                if (rules[i].isBroken(grid, highest)) {
                    broken++;
                }
            }
            return broken;
        }

        /** Whether values break a rule with a cell; one rule can be left out. */
        boolean isBrokenAt(int cell, int[] values, int without) {
            for (int i = 0; i < ruleCount; i++) {
                if (i != without && rules[i].hasCell(cell) && rules[i].isBroken(values, highest)) {
                    return true;
                }
            }
            return false;
        }

        void becomeCopyWithoutGivens(Puzzle other) {
            begin(other.columns, other.rows, other.highest);
            for (int i = 0; i < other.ruleCount; i++) {
                Rule rule = other.rules[i];
                if (rule.kind != Kind.IS) {
                    addRule(rule.kind).takeParts(rule);
                }
            }
        }

        /** Becomes another puzzle, turned clockwise or mirrored, with its grid. */
        void becomeMoved(Puzzle other, boolean turned) {
            if (turned) {
                begin(other.rows, other.columns, other.highest);
            } else {
                begin(other.columns, other.rows, other.highest);
            }
            for (int row = 0; row < other.rows; row++) {
                for (int column = 0; column < other.columns; column++) {
                    int newColumn = turned ? other.rows - 1 - row : other.columns - 1 - column;
                    int newRow = turned ? column : row;
                    int from = column + other.columns * row;
                    places[from] = newColumn + columns * newRow;
                    grid[places[from]] = other.grid[from];
                }
            }
            for (int i = 0; i < other.ruleCount; i++) {
                Rule rule = addRule(other.rules[i].kind);
                rule.takeParts(other.rules[i]);
                rule.moveCells(places);
            }
        }
    }

    /** The row of bytes that a puzzle is read from. */
    private static final class Tape {
        int length;
        private final int[] bytes = new int[MOST_BYTES];

        void appendFour(int number) {
            for (int shift = 24; shift >= 0 && length < bytes.length; shift -= 8) {
                bytes[length] = (number >> shift) & 255;
                length++;
            }
        }

        int byteOrNone(int place) {
            return place >= 0 && place < length && place < bytes.length ? bytes[place] : NONE;
        }
    }

    /** The tokens of a tape, the last of which is its end. */
    private static final class Tokens {
        static final int END = 0;
        static final int WORD = 1;
        static final int NUMBER = 2;
        static final int CELL = 3;
        static final int SEMICOLON = 4;
        static final int WRONG = 5;
        // The words that are no kinds of rules have numbers behind those of the kinds.
        static final int ROWS = 12;
        static final int COLUMNS = 13;
        static final int GRID = 14;
        private static final int LONGEST_WORD = 8;
        private static final int LONGEST_NUMBER = 4;

        int count;
        private final int[] types = new int[MOST_BYTES + 1];
        private final int[] starts = new int[MOST_BYTES + 1];
        // Of a word its number, of a cell ten times its column from 0, and its digit.
        private final int[] numbers = new int[MOST_BYTES + 1];

        int typeAt(int place) {
            return place >= 0 && place < count ? types[place] : END;
        }

        int startAt(int place) {
            return place >= 0 && place < count ? starts[place] : NONE;
        }

        int numberAt(int place) {
            return place >= 0 && place < count ? numbers[place] : NONE;
        }

        /** Splits a tape up. */
        void split(Tape tape) {
            count = 0;
            int next = skipBlanks(tape, 0);
            for (int i = 0; i < MOST_BYTES && next < tape.length; i++) {
                int first = tape.byteOrNone(next);
                int second = tape.byteOrNone(next + 1);
                int end = next + 1;
                if (isDigit(first)) {
                    end = addNumber(tape, next);
                } else if (isLetter(first) && isDigit(second)) {
                    add(CELL, next, 10 * (first - 'a') + second - '0');
                    end = next + 2;
                } else if (isLetter(first)) {
                    end = addWord(tape, next);
                } else {
                    add(first == ';' ? SEMICOLON : WRONG, next, NONE);
                }
                next = skipBlanks(tape, end);
            }
            add(END, tape.length, NONE);
        }

        private void add(int type, int start, int number) {
            if (count < types.length) {
                types[count] = type;
                starts[count] = start;
                numbers[count] = number;
                count++;
            }
        }

        // Adds the number that begins at a place; returns the place behind it.
        private int addNumber(Tape tape, int start) {
            int end = start;
            int number = 0;
            while (end < tape.length && isDigit(tape.byteOrNone(end))) {
                number = number * 10 + tape.byteOrNone(end) - '0';
                end++;
            }
            add(end - start <= LONGEST_NUMBER ? NUMBER : WRONG, start, number);
            return end;
        }

        // Adds the word that begins at a place; returns the place behind it.
        private int addWord(Tape tape, int start) {
            int end = start;
            while (end < tape.length && isLetter(tape.byteOrNone(end))) {
                end++;
            }
            int number = end - start <= LONGEST_WORD ? wordNumber(tape, start, end) : NONE;
            add(number == NONE ? WRONG : WORD, start, number);
            return end;
        }

        private static int wordNumber(Tape tape, int start, int end) {
            for (int i = 0; i < Kind.ALL.length; i++) {
                if (isWord(tape, start, end, Kind.ALL[i].word)) {
                    return Kind.ALL[i].number;
                }
            }
            if (isWord(tape, start, end, "rows")) {
                return ROWS;
            }
            if (isWord(tape, start, end, "columns")) {
                return COLUMNS;
            }
            return isWord(tape, start, end, "grid") ? GRID : NONE;
        }

        private static boolean isWord(Tape tape, int start, int end, String word) {
            if (end - start != word.length()) {
                return false;
            }
            for (int i = 0; i < word.length(); i++) {
                if (tape.byteOrNone(start + i) != word.charAt(i)) {
                    return false;
                }
            }
            return true;
        }

        private static int skipBlanks(Tape tape, int start) {
            int next = start;
            while (next < tape.length && isBlank(tape.byteOrNone(next))) {
                next++;
            }
            return next;
        }

        private static boolean isBlank(int sign) {
            return sign == ' ' || sign == '\n';
        }

        private static boolean isDigit(int sign) {
            return sign >= '0' && sign <= '9';
        }

        private static boolean isLetter(int sign) {
            return sign >= 'a' && sign <= 'z';
        }
    }

    /** Reads a puzzle from a tape: first its form, then its meaning. */
    private static final class PuzzleReader {
        private static final int WRONG_FORM = 1;
        private static final int WRONG_VALUE = 2;
        private static final int CELL_TWICE = 3;
        private static final int TOO_MANY = 4;

        int error;
        int errorAt = NONE;
        private final Tokens tokens = new Tokens();
        // The token that is looked at.
        private int place;

        /** Returns whether there is no error; only then the draft is a puzzle. */
        boolean readInto(Puzzle draft, Tape tape) {
            error = 0;
            errorAt = NONE;
            tokens.split(tape);
            if (!hasForm()) {
                return fail(WRONG_FORM);
            }
            return readSizes(draft) && readRules(draft);
        }

        private boolean fail(int newError) {
            error = newError;
            errorAt = tokens.startAt(place);
            return false;
        }

        private boolean hasForm() {
            place = 0;
            if (tokens.numberAt(place) != Tokens.GRID || !passes(Tokens.WORD, 1)) {
                return false;
            }
            if (!passes(Tokens.NUMBER, 3) || !passes(Tokens.SEMICOLON, 1)) {
                return false;
            }
            for (int i = 0; i < tokens.count && tokens.typeAt(place) != Tokens.END; i++) {
                if (!passesRule() || !passes(Tokens.SEMICOLON, 1)) {
                    return false;
                }
            }
            return true;
        }

        // Goes behind tokens of a type, or up to the first one that is of another type.
        private boolean passes(int type, int times) {
            for (int i = 0; i < times; i++) {
                if (tokens.typeAt(place) != type) {
                    return false;
                }
                place++;
            }
            return true;
        }

        private boolean passesRule() {
            int word = tokens.numberAt(place);
            if (tokens.typeAt(place) != Tokens.WORD || word == Tokens.GRID) {
                return false;
            }
            place++;
            if (word < 0 || word >= Kind.ALL.length) {
                return true;
            }
            Kind kind = Kind.ALL[word];
            return passes(Tokens.NUMBER, kind.numbersAhead)
                    && passesCells(kind.exactCells)
                    && passes(Tokens.NUMBER, kind == Kind.IS ? 1 : 0);
        }

        private boolean passesCells(int exactly) {
            if (exactly > 0) {
                return passes(Tokens.CELL, exactly);
            }
            if (!passes(Tokens.CELL, 1)) {
                return false;
            }
            for (int i = 0; i < tokens.count && tokens.typeAt(place) == Tokens.CELL; i++) {
                place++;
            }
            return true;
        }

        // The form is right from here on: each token is of the type that is due.
        private boolean readSizes(Puzzle draft) {
            for (place = 1; place <= 3; place++) {
                int size = tokens.numberAt(place);
                if (size < LEAST_SIZE || size > MOST_SIZE) {
                    return fail(WRONG_VALUE);
                }
            }
            draft.begin(tokens.numberAt(1), tokens.numberAt(2), tokens.numberAt(3));
            return true;
        }

        private boolean readRules(Puzzle draft) {
            place = 5;
            for (int i = 0; i < tokens.count && tokens.typeAt(place) == Tokens.WORD; i++) {
                if (!readRule(draft)) {
                    return false;
                }
                place++;
            }
            return true;
        }

        // Reads a rule up to its semicolon.
        private boolean readRule(Puzzle draft) {
            int word = tokens.numberAt(place);
            if (draft.ruleCount + rulesOf(word, draft) > MOST_RULES_OF_A_TEXT) {
                return fail(TOO_MANY);
            }
            if (word == Tokens.ROWS) {
                draft.addRowRules();
                place++;
                return true;
            }
            if (word == Tokens.COLUMNS) {
                draft.addColumnRules();
                place++;
                return true;
            }
            if (word < 0 || word >= Kind.ALL.length) {
                return fail(WRONG_FORM);
            }
            place++;
            Rule rule = draft.addRule(Kind.ALL[word]);
            return (rule.kind.numbersAhead < 1 || readNumber(draft, rule))
                    && (rule.kind.numbersAhead < 2 || readTimes(rule))
                    && readCells(draft, rule)
                    && (rule.kind != Kind.IS || readNumber(draft, rule));
        }

        private static int rulesOf(int word, Puzzle draft) {
            if (word == Tokens.ROWS) {
                return draft.rows;
            }
            return word == Tokens.COLUMNS ? draft.columns : 1;
        }

        private boolean readNumber(Puzzle draft, Rule rule) {
            rule.number = tokens.numberAt(place);
            if (!isAllowed(rule.kind, rule.number, draft.highest)) {
                return fail(WRONG_VALUE);
            }
            place++;
            return true;
        }

        private static boolean isAllowed(Kind kind, int number, int highest) {
            switch (kind) {
                case COUNT:
                case IS:
                    return number >= 1 && number <= highest;
                case SEE:
                    return number >= 1 && number <= 5;
                case APART:
                    return number >= 1 && number <= 4;
                default:
                    return true;
            }
        }

        private boolean readTimes(Rule rule) {
            rule.times = tokens.numberAt(place);
            if (rule.times > 5) {
                return fail(WRONG_VALUE);
            }
            place++;
            return true;
        }

        private boolean readCells(Puzzle draft, Rule rule) {
            for (int i = 0; i < tokens.count && tokens.typeAt(place) == Tokens.CELL; i++) {
                int column = tokens.numberAt(place) / 10;
                int row = tokens.numberAt(place) % 10 - 1;
                if (column >= draft.columns || row < 0 || row >= draft.rows) {
                    return fail(WRONG_VALUE);
                }
                int cell = column + draft.columns * row;
                if (rule.hasCell(cell)) {
                    return fail(CELL_TWICE);
                }
                if (rule.size >= MOST_CELLS_OF_A_RULE) {
                    return fail(TOO_MANY);
                }
                rule.addCell(cell);
                place++;
            }
            return true;
        }
    }

    /** The row of bytes that a puzzle is written on. */
    private static final class Paper {
        final int[] bytes = new int[MOST_BYTES_OF_PAPER];
        int length;

        void show(Puzzle puzzle) {
            length = 0;
            addWord("grid");
            addNumber(puzzle.columns);
            addNumber(puzzle.rows);
            addNumber(puzzle.highest);
            add(';');
            for (int i = 0; i < puzzle.ruleCount; i++) {
                addRule(puzzle.rules[i], puzzle.columns);
                add(';');
            }
        }

        private void addRule(Rule rule, int columns) {
            addWord(rule.kind.word);
            if (rule.kind.numbersAhead > 0) {
                addNumber(rule.number);
            }
            if (rule.kind.numbersAhead > 1) {
                addNumber(rule.times);
            }
            for (int i = 0; i < rule.size; i++) {
                addCell(rule.cells[i], columns);
            }
            if (rule.kind == Kind.IS) {
                addNumber(rule.number);
            }
        }

        private void addWord(String word) {
            for (int i = 0; i < word.length(); i++) {
                add(word.charAt(i));
            }
        }

        private void addNumber(int number) {
            add(' ');
            for (int unit = 1000; unit >= 1; unit /= 10) {
                if (number >= unit || unit == 1) {
                    add('0' + number / unit % 10);
                }
            }
        }

        private void addCell(int cell, int columns) {
            if (columns > 0) {
                add(' ');
                add('a' + cell % columns);
                add('1' + cell / columns);
            }
        }

        private void add(int sign) {
            if (length < bytes.length) {
                bytes[length] = sign;
                length++;
            }
        }
    }

    /** A search for solutions, cell by cell, and the solutions that it found. */
    private static final class Search {
        final int[][] solutions = new int[MOST_SOLUTIONS][MOST_CELLS];
        int found;
        int tries;
        private final int[] values = new int[MOST_CELLS];
        // The only value of a cell, 0 if it has all of them.
        private final int[] only = new int[MOST_CELLS];
        // The value that a cell begins with.
        private final int[] first = new int[MOST_CELLS];
        private int without;
        private int most;
        private boolean hasGivenUp;

        /** Searches among what the grid leaves; returns how many were found, -1 if it gave up. */
        int findInGrid(Puzzle puzzle, int howMany) {
            begin(howMany, NONE);
            for (int cell = 0; cell < puzzle.cellCount(); cell++) {
                only[cell] = puzzle.grid[cell];
            }
            endsFrom(this, puzzle, 0);
            return hasGivenUp ? NONE : found;
        }

        /** Whether the puzzle without one of its rules has just one solution. */
        boolean findsJustOne(Puzzle puzzle, int ruleLeftOut) {
            begin(2, ruleLeftOut);
            endsFrom(this, puzzle, 0);
            return found == 1;
        }

        /** Finds one solution, the values of each cell being begun with one of its own. */
        boolean findsOneFrom(Puzzle puzzle, int[] firstValues) {
            begin(1, NONE);
            for (int cell = 0; cell < puzzle.cellCount(); cell++) {
                first[cell] = firstValues[cell];
            }
            endsFrom(this, puzzle, 0);
            return found == 1;
        }

        private void begin(int howMany, int ruleLeftOut) {
            most = howMany;
            without = ruleLeftOut;
            found = 0;
            tries = 0;
            hasGivenUp = false;
            for (int cell = 0; cell < MOST_CELLS; cell++) {
                values[cell] = 0;
                only[cell] = 0;
                first[cell] = 1;
            }
        }

        // It calls itself once for each cell, of which there are 25 at most.
        private static boolean endsFrom(Search search, Puzzle puzzle, int cell) {
            if (cell >= puzzle.cellCount() || cell >= MOST_CELLS) {
                search.keep();
                return search.found >= search.most;
            }
            int choices = search.only[cell] == 0 ? puzzle.highest : 1;
            for (int turn = 0; turn < choices; turn++) {
                if (search.tries >= MOST_TRIES) {
                    search.giveUp();
                    return true;
                }
                search.tries++;
                search.values[cell] = search.choice(cell, turn, puzzle.highest);
                if (!puzzle.isBrokenAt(cell, search.values, search.without)
                        && endsFrom(search, puzzle, cell + 1)) {
                    return true;
                }
            }
            search.values[cell] = 0;
            return false;
        }

        private int choice(int cell, int turn, int highest) {
            if (only[cell] != 0) {
                return only[cell];
            }
            int value = first[cell] + turn;
            return value > highest ? value - highest : value;
        }

        private void giveUp() {
            hasGivenUp = true;
            found = 0;
        }

        private void keep() {
            if (found < solutions.length) {
                for (int cell = 0; cell < MOST_CELLS; cell++) {
                    solutions[found][cell] = values[cell];
                }
                found++;
            }
        }
    }

    /** The sets of possible values (a bit for each value), and what is deduced about them. */
    private static final class Reasoner {
        final int[] sets = new int[MOST_CELLS];
        int passes;
        int greatestGrade;
        int firstRule;
        int firstCell;
        int firstValue;
        int firstGrade;
        // The values that a rule is tested with.
        private final int[] values = new int[MOST_CELLS];

        void begin(Puzzle puzzle) {
            passes = 0;
            greatestGrade = 0;
            for (int cell = 0; cell < puzzle.cellCount(); cell++) {
                int value = puzzle.grid[cell];
                sets[cell] = value == 0 ? (1 << puzzle.highest) - 1 : 1 << (value - 1);
            }
        }

        int countValues(Puzzle puzzle) {
            int possible = 0;
            for (int cell = 0; cell < puzzle.cellCount(); cell++) {
                possible += Integer.bitCount(sets[cell]);
            }
            return possible;
        }

        int countCellsWith(Puzzle puzzle, int size) {
            int cells = 0;
            for (int cell = 0; cell < puzzle.cellCount(); cell++) {
                if (Integer.bitCount(sets[cell]) == size) {
                    cells++;
                }
            }
            return cells;
        }

        void takeOut(int cell, int value) {
            if (hasValue(cell, value)) {
                sets[cell] -= 1 << (value - 1);
            }
        }

        /** Finds the first deduction that a pass would do; returns whether there is one. */
        boolean findFirst(Puzzle puzzle) {
            for (int i = 0; i < puzzle.ruleCount; i++) {
                if (findFirstBy(puzzle.rules[i], puzzle.highest)) {
                    firstRule = i;
                    return true;
                }
            }
            return false;
        }

        private boolean findFirstBy(Rule rule, int highest) {
            for (int place = 0; place < rule.size; place++) {
                for (int value = 1; value <= highest; value++) {
                    if (isRefuted(rule, place, value, highest)) {
                        firstCell = rule.cells[place];
                        firstValue = value;
                        firstGrade = gradeOf(rule);
                        return true;
                    }
                }
            }
            return false;
        }

        /** Does passes until one does no deduction; returns how many deductions were done. */
        int doPasses(Puzzle puzzle) {
            passes = 0;
            greatestGrade = 0;
            int all = 0;
            // Each pass but the last one takes a value out, and there are not more than these.
            for (int pass = 0; pass <= MOST_CELLS * MOST_SIZE; pass++) {
                int done = 0;
                for (int i = 0; i < puzzle.ruleCount; i++) {
                    done += deduceBy(puzzle.rules[i], puzzle.highest);
                }
                passes++;
                all += done;
                if (done == 0) {
                    break;
                }
            }
            return all;
        }

        private int deduceBy(Rule rule, int highest) {
            int done = 0;
            for (int place = 0; place < rule.size; place++) {
                for (int value = 1; value <= highest; value++) {
                    if (isRefuted(rule, place, value, highest)) {
                        greatestGrade = Math.max(greatestGrade, gradeOf(rule));
                        takeOut(rule.cells[place], value);
                        done++;
                    }
                }
            }
            return done;
        }

        private boolean hasValue(int cell, int value) {
            return ((sets[cell] >> (value - 1)) & 1) != 0;
        }

        private int gradeOf(Rule rule) {
            int grade = 0;
            for (int i = 0; i < rule.size; i++) {
                if (Integer.bitCount(sets[rule.cells[i]]) > 1) {
                    grade++;
                }
            }
            return grade;
        }

        // Whether a value of the set of a cell is not possible by a rule with this cell.
        private boolean isRefuted(Rule rule, int place, int value, int highest) {
            if (!hasValue(rule.cells[place], value)) {
                return false;
            }
            for (int i = 0; i < rule.size; i++) {
                values[rule.cells[i]] = 0;
            }
            values[rule.cells[place]] = value;
            return !holdsFrom(this, rule, place, 0, highest);
        }

        // It calls itself once for each cell of a rule; what is broken already is left early.
        private static boolean holdsFrom(Reasoner reasoner, Rule rule, int fixed, int place,
                int highest) {
            if (rule.isBroken(reasoner.values, highest)) {
                return false;
            }
            if (place >= rule.size) {
                return true;
            }
            if (place == fixed) {
                return holdsFrom(reasoner, rule, fixed, place + 1, highest);
            }
            int cell = rule.cells[place];
            for (int value = 1; value <= highest; value++) {
                if (reasoner.hasValue(cell, value)) {
                    reasoner.values[cell] = value;
                    if (holdsFrom(reasoner, rule, fixed, place + 1, highest)) {
                        return true;
                    }
                }
            }
            reasoner.values[cell] = 0;
            return false;
        }
    }

    /** Makes puzzles with so many cells given that there is just one solution. */
    private static final class Maker {
        private static final int STRIDE = 7;

        private final int[] firstValues = new int[MOST_CELLS];
        private int seed;

        /** Makes a draft with all cells given; returns whether there is a solution for it. */
        boolean giveAll(Puzzle draft, Puzzle old, Search probe, int newSeed) {
            seed = newSeed;
            draft.becomeCopyWithoutGivens(old);
            if (draft.highest < 1) {
                return false;
            }
            for (int cell = 0; cell < draft.cellCount(); cell++) {
                firstValues[cell] = 1 + draw() % draft.highest;
            }
            if (!probe.findsOneFrom(draft, firstValues)) {
                return false;
            }
            for (int cell = 0; cell < draft.cellCount(); cell++) {
                draft.addGiven(cell, probe.solutions[0][cell]);
            }
            return true;
        }

        /** Drops the givens without which there still is just one solution. */
        void dropGivens(Puzzle draft, Search probe) {
            int cells = draft.cellCount();
            if (cells < 1) {
                return;
            }
            int cell = draw() % cells;
            for (int turn = 0; turn < cells; turn++) {
                int given = draft.findGiven(cell);
                if (given != NONE && probe.findsJustOne(draft, given)) {
                    draft.removeRule(given);
                }
                cell = (cell + STRIDE) % cells;
            }
        }

        private int draw() {
            seed = (seed * 1103 + 12345) % 65536;
            return seed / 16;
        }
    }
}
