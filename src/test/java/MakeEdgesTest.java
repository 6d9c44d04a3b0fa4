/** Part 4 of the document, making: its edges, and those that the promises 23 and 24 name. */
public final class MakeEdgesTest {
    // Of 16 cells, and of 25: where the cells stand that have one value only by the last cell.
    private static final int[] FREE_OF_5000 = {4, 8, 12, 14};
    private static final int[] FREE_OF_5005 = {5, 14, 22, 23};

    private MakeEdgesTest() {
    }

    public static void main(String[] args) {
        testNumbersWrapAround();
        testTheLeastAndTheGreatestSeed();
        testValuesWrapAround();
        testTurnsWrapAround();
        testGivensComeBackToWhereTheyWere();
        testNoGivenIsNeeded();
        testAllGivensAreNeeded();
        testFortyRulesIsAreDropped();
        testMoreThanFortyRules();
        testFirstSearchFindsWithTheLastTry();
        testFirstSearchWouldNeedMoreTries();
        testGivenComesBackBeyondTheLastTry();
        testNoSolutionLeavesAll();
        testTheGridIsNotLookedAt();
        testMakeOnceMore();
        testWhereCellsGo();
        testWidthsAndHeightsChangePlaces();
        testWhatIsInACellGoesWithIt();
        Check.end();
    }

    private static String name(int cell, int w) {
        return "" + (char) ('a' + cell % w) + (1 + cell / w);
    }

    /** The numbers that are drawn of a seed, by the document's words. */
    private static int[] drawn(int seed, int howMany) {
        int[] numbers = new int[howMany];
        long x = seed;
        for (int i = 0; i < howMany; i++) {
            x = (x * 1103 + 12345) % 65536;
            numbers[i] = (int) (x / 16);
        }
        return numbers;
    }

    // "by the remainder of 65536, and x / 16, cut": without rules each cell is given what is drawn.
    private static void testNumbersWrapAround() {
        for (int k = 2; k <= 5; k++) {
            RiddleMill mill = Check.mill("grid 2 2 " + k + ";");
            for (int seed = k; seed <= 65535; seed += 11) {
                int[] numbers = drawn(seed, 4);
                Check.same("givens", 4, mill.make(seed));
                for (int cell = 0; cell < 4; cell++) {
                    Check.same("seed " + seed + ", cell " + cell, 1 + numbers[cell] % k, mill.rule(cell, 1));
                }
            }
        }
        // 25 numbers of one seed: x wraps around again and again.
        RiddleMill mill = Check.mill("grid 5 5 5;");
        int[] numbers = drawn(54321, 25);
        Check.same("25 givens", 25, mill.make(54321));
        for (int cell = 0; cell < 25; cell++) {
            Check.same("given of " + cell, 1 + numbers[cell] % 5, mill.rule(cell, 1));
        }
    }

    private static void testTheLeastAndTheGreatestSeed() {
        // 0 becomes 12345; 65535 becomes 65535 * 1103 + 12345 = 72297450, of which 11242 is left.
        RiddleMill mill = Check.mill("grid 2 2 5;");
        mill.make(0);
        Check.same("seed 0", 1 + 12345 / 16 % 5, mill.rule(0, 1));
        mill.make(65535);
        Check.same("seed 65535", 1 + 11242 / 16 % 5, mill.rule(0, 1));
        Check.refused("seed -1", mill, IllegalArgumentException.class, () -> mill.make(-1));
        Check.refused("seed 65536", mill, IllegalArgumentException.class, () -> mill.make(65536));
    }

    // "up to k, then from 1 on": with what is not allowed, the next one is taken, behind k the 1.
    private static void testValuesWrapAround() {
        for (int k = 2; k <= 5; k++) {
            for (int seed = 0; seed < 60; seed++) {
                int first = 1 + drawn(seed, 1)[0] % k;
                int next = first == k ? 1 : first + 1;
                RiddleMill mill = Check.mill("grid 2 2 " + k + ";count " + first + " 0 a1;");
                int givens = mill.make(seed);
                Check.same("just one solution", 1, mill.search(2));
                Check.same("seed " + seed + ": not " + first + " of " + k, next, mill.solution(0, 0));
                Check.same("the first one can be left out, if there are but two", k == 2 ? 3 : 4, givens);
            }
        }
    }

    // "each next one is 7 further, by the remainder of the number of cells, until all had their turn":
    // if all cells are the same, the given of the last turn is left.
    private static void testTurnsWrapAround() {
        for (int w = 2; w <= 5; w++) {
            for (int h = 2; h <= 5; h++) {
                StringBuilder text = new StringBuilder("grid " + w + " " + h + " 4;same");
                for (int row = 1; row <= h; row++) {
                    text.append(" a").append(row);
                }
                text.append(';');
                for (int row = 1; row <= h; row++) {
                    text.append("same");
                    for (int column = 0; column < w; column++) {
                        text.append(' ').append((char) ('a' + column)).append(row);
                    }
                    text.append(';');
                }
                RiddleMill mill = Check.mill(text.toString());
                int cells = w * h;
                for (int seed = 0; seed < 50; seed++) {
                    int first = drawn(seed, cells + 1)[cells] % cells;
                    Check.same("givens", 1, mill.make(seed));
                    Check.same(w + " by " + h + ", seed " + seed, (first + 7 * (cells - 1)) % cells,
                            mill.rule(h + 1, 4));
                }
            }
        }
    }

    // "otherwise it comes back to where it was": those that stay are in the order of their cells.
    private static void testGivensComeBackToWhereTheyWere() {
        RiddleMill mill = Check.mill("grid 4 4 4;rows;columns;is c3 1;");
        for (int seed = 0; seed < 40; seed++) {
            int givens = mill.make(seed);
            Check.same("rules", 8 + givens, mill.count(3));
            for (int rule = 0; rule < 8; rule++) {
                Check.same("the others stay ahead", 0, mill.rule(rule, 0));
            }
            for (int rule = 8; rule < 8 + givens; rule++) {
                Check.same("is", 9, mill.rule(rule, 0));
                int before = rule == 8 ? -1 : mill.rule(rule - 1, 4);
                Check.same("in the order of the cells", true, mill.rule(rule, 4) > before);
                Check.same("each one is needed", true, mill.isNeeded(rule));
            }
            Check.same("just one solution", 1, mill.search(2));
        }
    }

    private static void testNoGivenIsNeeded() {
        RiddleMill mill = Check.mill("grid 2 2 3;sum 3 a1;sum 1 b1;differ a1 b1 a2;product 4 a2 b2;is a1 3;");
        Check.same("none", 0, mill.make(3));
        Check.same("no rules is", 0, mill.count(4));
        Check.same("the other rules", 4, mill.count(3));
        Check.same("just one solution", 1, mill.search(2));
    }

    private static void testAllGivensAreNeeded() {
        for (int w = 2; w <= 5; w++) {
            for (int h = 2; h <= 5; h++) {
                RiddleMill mill = Check.mill("grid " + w + " " + h + " 2;");
                Check.same("all", w * h, mill.make(1));
                Check.same("all rules", w * h, mill.count(3));
                Check.same("rules is", w * h, mill.count(4));
            }
        }
    }

    private static void testFortyRulesIsAreDropped() {
        RiddleMill mill = Check.mill("grid 2 2 2;" + Check.repeat("is a1 1;is a1 2;", 20));
        Check.same("forty rules is", 40, mill.count(4));
        Check.same("four are made", 4, mill.make(9));
        Check.same("the forty are gone", 4, mill.count(3));
    }

    private static void testMoreThanFortyRules() {
        RiddleMill mill = Check.mill("grid 5 5 2;" + Check.repeat("up e5;", 40));
        Check.same("as many as cells", 25, mill.make(0));
        Check.same("all rules", 65, mill.count(3));
        Check.same("the last one", 24, mill.rule(64, 4));
        Check.refused("behind the last one", mill, IndexOutOfBoundsException.class, () -> mill.rule(65, 0));
        Check.refused("drop behind the last one", mill, IndexOutOfBoundsException.class, () -> mill.drop(65));
        Check.refused("isNeeded behind the last one", mill, IndexOutOfBoundsException.class,
                () -> mill.isNeeded(65));
        Check.same("the last one is needed", true, mill.isNeeded(64));
        Check.same("the first one is not", false, mill.isNeeded(0));
        Check.same("deductions", 25, mill.reason());
        Check.same("turned", 25, mill.change(0));
        Check.same("mirrored", 25, mill.change(1));
        Check.same("all rules then", 65, mill.count(3));
        // What is written can't be read again: it has too many rules.
        String text = Check.written(mill);
        Check.same("too many rules", 4, Check.compile(mill, text));
        Check.same("at the 41st one", 11 + 40 * 6, mill.errorAt());
        Check.same("drop the last one", 64, mill.drop(64));
        Check.same("the one ahead of it stays", 9, mill.rule(63, 0));
    }

    private static boolean contains(int[] cells, int cell) {
        for (int other : cells) {
            if (other == cell) {
                return true;
            }
        }
        return false;
    }

    /** A seed that draws the same first value for some cells and the last one. */
    private static int seedWithEqual(int[] cells, int last) {
        for (int seed = 0; seed <= 65535; seed++) {
            int[] numbers = drawn(seed, last + 1);
            boolean areEqual = true;
            for (int cell : cells) {
                areEqual &= numbers[cell] % 5 == numbers[last] % 5;
            }
            if (areEqual) {
                return seed;
            }
        }
        Check.fail("no seed draws equal numbers");
        return 0;
    }

    /**
     * Cells of one value each: further values behind what is drawn; those that are free have it as they
     * are the same as the last cell, which is seen behind all others.
     */
    private static RiddleMill pinned(int w, int h, int[] free, int seed, int further) {
        int last = w * h - 1;
        int[] numbers = drawn(seed, last + 1);
        StringBuilder text = new StringBuilder("grid " + w + " " + h + " 5;");
        for (int cell = 0; cell <= last; cell++) {
            if (contains(free, cell)) {
                text.append("same ").append(name(cell, w)).append(' ').append(name(last, w)).append(';');
            } else {
                text.append("sum ").append(1 + (numbers[cell] + further) % 5).append(' ');
                text.append(name(cell, w)).append(';');
            }
        }
        return Check.mill(text.toString());
    }

    // Each cell has the value that is tried last, so that the solution is found with the last try of
    // all: 5 * (5 * 1 + 4 * 5 + 4 * 25 + 2 * 125 + 625) = 5000. The searches for two make as many.
    private static void testFirstSearchFindsWithTheLastTry() {
        int seed = seedWithEqual(FREE_OF_5000, 15);
        RiddleMill mill = pinned(4, 4, FREE_OF_5000, seed, 4);
        Check.same("all givens are dropped", 0, mill.make(seed));
        Check.same("one is found", 1, mill.search(2));
        Check.same("with all tries", 5000, mill.count(8));
    }

    // 5 * (6 * 1 + 9 * 5 + 8 * 25 + 125 + 625) = 5005.
    private static void testFirstSearchWouldNeedMoreTries() {
        int seed = seedWithEqual(FREE_OF_5005, 24);
        RiddleMill mill = pinned(5, 5, FREE_OF_5005, seed, 4);
        mill.put(3, 2);
        mill.search(1);
        mill.reason();
        String before = Check.state(mill);
        Check.same("it gives up", -1, mill.make(seed));
        Check.same("all is as it was", before, Check.state(mill));
    }

    // The first search finds the solution at once; but without any given of a free cell the search
    // for two gives up, so the free cell whose turn is the last one keeps its given.
    private static void testGivenComesBackBeyondTheLastTry() {
        int seed = seedWithEqual(FREE_OF_5005, 24);
        RiddleMill mill = pinned(5, 5, FREE_OF_5005, seed, 0);
        int cell = drawn(seed, 26)[25] % 25;
        int last = -1;
        for (int turn = 0; turn < 25; turn++) {
            last = contains(FREE_OF_5005, cell) ? cell : last;
            cell = (cell + 7) % 25;
        }
        Check.same("one given", 1, mill.make(seed));
        Check.same("its cell", last, mill.rule(25, 4));
        Check.same("just one solution", 1, mill.search(2));
        mill.drop(25);
        Check.same("without it, it gives up", -1, mill.search(2));
    }

    private static void testNoSolutionLeavesAll() {
        RiddleMill mill = Check.mill("grid 2 2 2;is a1 1;differ a1 b1 a2;is b2 2;");
        mill.put(1, 2);
        mill.search(3);
        mill.write();
        mill.reason();
        mill.feed(1, 2, 3, 4, 5);
        String before = Check.state(mill);
        long digest = mill.digest();
        int[] seeds = {0, 1, 4242, 65535};
        for (int seed : seeds) {
            Check.same("no solution", -1, mill.make(seed));
            Check.same("all is as it was", before, Check.state(mill));
            Check.same("the digest", digest, mill.digest());
        }
    }

    private static void testTheGridIsNotLookedAt() {
        RiddleMill mill = Check.mill("grid 3 3 3;rows;columns;");
        RiddleMill other = Check.mill("grid 3 3 3;rows;columns;");
        Check.fill(mill, "111111111");
        Check.same("the same givens", other.make(31), mill.make(31));
        Check.same("the same puzzle", Check.written(other), Check.written(mill));
        Check.same("the grid is empty", "000000000", Check.grid(mill));
    }

    // What was made before does not matter, as its rules is are dropped.
    private static void testMakeOnceMore() {
        RiddleMill mill = Check.mill("grid 3 3 3;rows;columns;less a1 b2;");
        for (int seed = 0; seed < 20; seed++) {
            RiddleMill fresh = Check.mill("grid 3 3 3;rows;columns;less a1 b2;");
            Check.same("givens, seed " + seed, fresh.make(seed), mill.make(seed));
            Check.same("puzzle, seed " + seed, Check.written(fresh), Check.written(mill));
        }
    }

    private static int placeOf(int cell, int w, int h, int sort) {
        int c = cell % w;
        int r = cell / w;
        return sort == 0 ? h - 1 - r + h * c : w - 1 - c + w * r;
    }

    private static void testWhereCellsGo() {
        for (int w = 2; w <= 5; w++) {
            for (int h = 2; h <= 5; h++) {
                StringBuilder text = new StringBuilder("grid " + w + " " + h + " 5;");
                for (int cell = 0; cell < w * h; cell++) {
                    text.append("up ").append(name(cell, w)).append(' ');
                    text.append(name((cell + 1) % (w * h), w)).append(';');
                }
                for (int sort = 0; sort <= 1; sort++) {
                    RiddleMill mill = Check.mill(text.toString());
                    Check.same("cells", w * h, mill.change(sort));
                    for (int cell = 0; cell < w * h; cell++) {
                        int next = (cell + 1) % (w * h);
                        String of = "change " + sort + " of " + w + " by " + h;
                        Check.same(of, placeOf(cell, w, h, sort), mill.rule(cell, 4));
                        Check.same(of, placeOf(next, w, h, sort), mill.rule(cell, 5));
                        Check.same(of, -1, mill.rule(cell, 6));
                    }
                }
            }
        }
    }

    private static void testWidthsAndHeightsChangePlaces() {
        for (int w = 2; w <= 5; w++) {
            for (int h = 2; h <= 5; h++) {
                RiddleMill mill = Check.mill("grid " + w + " " + h + " 4;");
                mill.change(1);
                Check.same("columns of a mirrored one", w, mill.count(0));
                Check.same("rows of a mirrored one", h, mill.count(1));
                mill.change(0);
                Check.same("columns of a turned one", h, mill.count(0));
                Check.same("rows of a turned one", w, mill.count(1));
                Check.same("values", 4, mill.count(2));
                Check.same("its text", "grid " + h + " " + w + " 4;", Check.written(mill));
                int last = w * h - 1;
                Check.same("the last cell", 0, mill.put(last, 4));
                Check.refused("behind it", mill, IndexOutOfBoundsException.class, () -> mill.put(last + 1, 4));
            }
        }
    }

    private static void testWhatIsInACellGoesWithIt() {
        for (int w = 2; w <= 5; w++) {
            for (int h = 2; h <= 5; h++) {
                for (int sort = 0; sort <= 1; sort++) {
                    RiddleMill mill = Check.mill("grid " + w + " " + h + " 5;");
                    for (int cell = 0; cell < w * h; cell++) {
                        mill.put(cell, (cell * cell + cell / 3) % 6);
                    }
                    mill.change(sort);
                    for (int cell = 0; cell < w * h; cell++) {
                        int value = (cell * cell + cell / 3) % 6;
                        int place = placeOf(cell, w, h, sort);
                        Check.same("value of " + cell, value, mill.value(place));
                        Check.same("set of " + cell, value == 0 ? 31 : 1 << value - 1, mill.possible(place));
                    }
                }
            }
        }
    }
}
