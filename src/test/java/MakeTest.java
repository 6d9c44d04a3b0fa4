/** Promises 23 and 24: make and change. */
public final class MakeTest {
    private static final Class<IllegalArgumentException> ARGUMENT = IllegalArgumentException.class;
    private static final Class<IllegalStateException> STATE = IllegalStateException.class;

    private MakeTest() {
    }

    public static void main(String[] args) {
        testMakeGivesWhatIsDrawn();
        testMakeSearchesFromWhatIsDrawn();
        testMakeDropsGivensInTurn();
        testMakeDropsRulesIs();
        testMakeStateBehind();
        testMakeWithoutSolution();
        testMakeGivesUp();
        testMakeKeepsGivensWhenASearchGivesUp();
        testMakeBeyondForty();
        testMakeRefuses();
        testTurn();
        testMirror();
        testFourTurnsAndTwoMirrors();
        testChangedRulesBindTheirNewCells();
        testChangeStateBehind();
        testChangeRefuses();
        Check.end();
    }

    /** The numbers that are drawn of a seed. */
    private static int[] drawn(int seed, int howMany) {
        int[] numbers = new int[howMany];
        long x = seed;
        for (int i = 0; i < howMany; i++) {
            x = (x * 1103 + 12345) % 65536;
            numbers[i] = (int) (x / 16);
        }
        return numbers;
    }

    private static void testMakeGivesWhatIsDrawn() {
        // Without rules each cell has to be given; the search takes the first value of each.
        int[] seeds = {0, 1, 77, 4242, 65535};
        for (int seed : seeds) {
            RiddleMill mill = Check.mill("grid 3 2 5;");
            int[] numbers = drawn(seed, 6);
            StringBuilder due = new StringBuilder("grid 3 2 5;");
            for (int cell = 0; cell < 6; cell++) {
                due.append("is ").append((char) ('a' + cell % 3)).append(1 + cell / 3);
                due.append(' ').append(1 + numbers[cell] % 5).append(';');
            }
            Check.same("make " + seed, 6, mill.make(seed));
            Check.same("what it made", due.toString(), Check.written(mill));
        }
        // Of the seed 0: x is 12345, 62928, 19305, 6560, so 771, 3933, 1206, 410 are drawn.
        RiddleMill mill = Check.mill("grid 2 2 5;");
        mill.make(0);
        Check.same("seed 0", "grid 2 2 5;is a1 2;is b1 4;is a2 2;is b2 1;", Check.written(mill));
    }

    private static void testMakeSearchesFromWhatIsDrawn() {
        // 771, 3933, 1206, 410 by 5 begin with 2, 4, 2, 1. b1 has to be below a1, so it goes
        // on from 4 over 5 to 1; a2 is odd, so it goes on from 2 to 3.
        RiddleMill mill = Check.mill("grid 2 2 5;less b1 a1;odd a2;");
        mill.make(0);
        Check.same("just one solution", 1, mill.search(2));
        Check.same("its solution", "2131", Check.solution(mill, 0));
    }

    private static void testMakeDropsGivensInTurn() {
        // All cells are the same, so one given is enough: that whose turn is the last one.
        // Behind 410 comes x = 39065, which draws 2441: by 4 this is 1; the turns are 1, 0, 3, 2.
        RiddleMill mill = Check.mill("grid 2 2 5;same a1 b1 a2 b2;");
        Check.same("one given", 1, mill.make(0));
        Check.same("the last turn's one", "grid 2 2 5;same a1 b1 a2 b2;is a2 2;", Check.written(mill));
        for (int seed = 0; seed < 40; seed++) {
            RiddleMill six = Check.mill("grid 3 2 5;same a1 b1 c1 a2 b2;same a1 c2;");
            int[] numbers = drawn(seed, 7);
            int last = (numbers[6] % 6 + 5 * 7) % 6;
            Check.same("six cells, seed " + seed, 1, six.make(seed));
            Check.same("the cell of the last turn, seed " + seed, last, six.rule(2, 4));
            Check.same("its value, seed " + seed, 1 + numbers[0] % 5, six.rule(2, 1));
        }
    }

    private static void testMakeDropsRulesIs() {
        RiddleMill mill = Check.mill("grid 2 2 3;is a1 1;differ a1 b1;is b2 3;differ a2 b2;");
        Check.same("make", true, mill.make(9) > 0);
        Check.same("the first one is gone", 0, mill.rule(0, 0));
        Check.same("the second one is gone", 0, mill.rule(1, 0));
        for (int rule = 2; rule < mill.count(3); rule++) {
            Check.same("all behind them are is", 9, mill.rule(rule, 0));
        }
        Check.same("just one solution", 1, mill.search(2));
        // The rules is that were dropped do not bind what is made.
        mill = Check.mill("grid 2 2 2;is a1 1;is a1 2;");
        Check.same("they were contradictory", 0, mill.search(1));
        Check.same("all are given now", 4, mill.make(3));
        Check.same("make of what was made", 4, mill.make(4));
        Check.same("its rules", 4, mill.count(3));
    }

    private static void testMakeStateBehind() {
        RiddleMill mill = Check.mill("grid 3 3 3;rows;columns;is a1 1;");
        mill.put(0, 3);
        mill.put(8, 2);
        mill.search(2);
        int tries = mill.count(8);
        mill.write();
        String paper = Check.paper(mill);
        mill.look();
        mill.reason();
        int givens = mill.make(1234);
        Check.same("rules is", givens, mill.count(4));
        Check.same("rules", 6 + givens, mill.count(3));
        Check.same("the grid is empty", 0, mill.count(5));
        Check.same("no solutions", 0, mill.count(7));
        Check.same("tries stay", tries, mill.count(8));
        Check.same("the paper stays", paper, Check.paper(mill));
        Check.same("passes are gone", 0, mill.reasoned(0));
        Check.same("the sets", "7 7 7 7 7 7 7 7 7", Check.sets(mill));
        Check.same("just one solution", 1, mill.search(2));
        for (int rule = 6; rule < mill.count(3); rule++) {
            Check.same("each given is needed", true, mill.isNeeded(rule));
        }
    }

    private static void testMakeWithoutSolution() {
        RiddleMill mill = Check.mill("grid 2 2 2;is a1 1;sum 9 b1;is b2 2;");
        mill.put(0, 2);
        mill.search(1);
        mill.write();
        mill.look();
        mill.reason();
        String before = Check.state(mill);
        Check.same("no solution", -1, mill.make(5));
        Check.same("all is as it was", before, Check.state(mill));
        RiddleMill kept = Check.mill("grid 2 2 2;");
        kept.search(3);
        kept.reason();
        Check.compile(kept, "grid 2 2");
        String state = Check.state(kept);
        Check.same("solutions are there", 3, kept.count(7));
        Check.refused("a wrong seed", kept, ARGUMENT, () -> kept.make(-1));
        Check.same("all is as it was there", state, Check.state(kept));
    }

    private static void testMakeGivesUp() {
        RiddleMill mill = Check.mill("grid 5 5 5;is a1 1;sum 9 e5;");
        mill.put(3, 3);
        mill.look();
        mill.reason();
        String before = Check.state(mill);
        Check.same("it gives up", -1, mill.make(5));
        Check.same("all is as it was", before, Check.state(mill));
    }

    private static void testMakeKeepsGivensWhenASearchGivesUp() {
        // The last row copies the first one, so that a given of the first row is not needed;
        // but without it, and with others dropped, searches take longer and longer.
        String text = "grid 5 5 5;same a1 a5;same b1 b5;same c1 c5;same d1 d5;same e1 e5;";
        RiddleMill mill = Check.mill(text);
        int givens = mill.make(11);
        Check.same("just one solution is found", 1, mill.search(2));
        Check.same("twenty at least", true, givens >= 20);
        for (int rule = 5; rule < mill.count(3); rule++) {
            Check.same("each given is needed", true, mill.isNeeded(rule));
        }
    }

    private static void testMakeBeyondForty() {
        RiddleMill mill = Check.mill("grid 5 5 5;" + Check.repeat("differ a1;", 40));
        Check.same("all are given", 25, mill.make(7));
        Check.same("rules", 65, mill.count(3));
        Check.same("the last one", 24, mill.rule(64, 4));
        Check.same("its text", 11 + 40 * 10 + 25 * 8, mill.write());
        Check.same("turned", 25, mill.change(0));
        Check.same("rules stay", 65, mill.count(3));
        Check.same("once more", 25, mill.make(8));
        Check.same("rules then", 65, mill.count(3));
        Check.same("just one", 1, mill.search(30));
        Check.same("drop one", 64, mill.drop(0));
        Check.same("drop the last one", 63, mill.drop(63));
        Check.same("five are open", 5, mill.search(30));
    }

    private static void testMakeRefuses() {
        RiddleMill mill = Check.mill("grid 2 2 2;is a1 1;");
        RiddleMill empty = new RiddleMill();
        int[] wrong = {-1, 65536, Integer.MIN_VALUE, Integer.MAX_VALUE};
        for (int seed : wrong) {
            Check.refused("make " + seed, mill, ARGUMENT, () -> mill.make(seed));
            Check.refused("no puzzle: make " + seed, empty, ARGUMENT, () -> empty.make(seed));
        }
        Check.refused("no puzzle: make 0", empty, STATE, () -> empty.make(0));
        Check.refused("no puzzle: make 65535", empty, STATE, () -> empty.make(65535));
        Check.same("the least seed", 4, mill.make(0));
        Check.same("the greatest seed", 4, mill.make(65535));
    }

    private static void testTurn() {
        RiddleMill mill = Check.mill("grid 3 2 4;is a1 1;is c1 2;up a2 b1 c2;");
        Check.fill(mill, "123400");
        Check.same("cells", 6, mill.change(0));
        Check.same("columns", 2, mill.count(0));
        Check.same("rows", 3, mill.count(1));
        Check.same("values", 4, mill.count(2));
        // 123      41
        // 4..  is  .2
        //          .3
        Check.same("the grid", "410203", Check.grid(mill));
        Check.same("the rules", "grid 2 3 4;is b1 1;is b3 2;up a1 b2 a3;", Check.written(mill));
    }

    private static void testMirror() {
        RiddleMill mill = Check.mill("grid 3 2 4;is a1 1;is c1 2;up a2 b1 c2;");
        Check.fill(mill, "123400");
        Check.same("cells", 6, mill.change(1));
        Check.same("columns", 3, mill.count(0));
        Check.same("rows", 2, mill.count(1));
        Check.same("the grid", "321004", Check.grid(mill));
        Check.same("the rules", "grid 3 2 4;is c1 1;is a1 2;up c2 b1 a2;", Check.written(mill));
    }

    private static void testFourTurnsAndTwoMirrors() {
        String text = "grid 4 3 5;rows;see 2 a1 b2 c3;count 1 2 d1 d2 d3;apart 2 a3 d1;is b3 5;less c1 c2;";
        RiddleMill mill = Check.mill(text);
        Check.fill(mill, "123450012340");
        String grid = Check.grid(mill);
        String written = Check.written(mill);
        mill.change(1);
        Check.same("mirrored once", false, written.equals(Check.written(mill)));
        mill.change(1);
        Check.same("mirrored twice", written, Check.written(mill));
        Check.same("the grid mirrored twice", grid, Check.grid(mill));
        for (int turn = 1; turn <= 4; turn++) {
            Check.same("turn " + turn, 12, mill.change(0));
            Check.same("columns, turn " + turn, turn % 2 == 0 ? 4 : 3, mill.count(0));
        }
        Check.same("turned four times", written, Check.written(mill));
        Check.same("the grid turned four times", grid, Check.grid(mill));
    }

    private static void testChangedRulesBindTheirNewCells() {
        // Mirrored, then turned upside down, then turned once more.
        RiddleMill mill = Check.mill("grid 3 2 2;is a1 2;odd b1 c1;same a2 b2 c2 a1;");
        Check.same("just one solution", 1, mill.search(30));
        Check.same("it", "211222", Check.solution(mill, 0));
        String[] due = {"112222", "222112", "121222"};
        int[] sorts = {1, 1, 0};
        int[] tries = {12, 22, 18};
        for (int i = 0; i < sorts.length; i++) {
            mill.change(sorts[i]);
            if (i == 1) {
                mill.change(0);
                mill.change(0);
            }
            Check.same("just one solution, change " + i, 1, mill.search(30));
            Check.same("it, change " + i, due[i], Check.solution(mill, 0));
            Check.same("its tries, change " + i, tries[i], mill.count(8));
        }
        // The sum is out of reach, which is seen at its cell, not at that where it was.
        mill = Check.mill("grid 2 2 2;sum 9 a1;");
        Check.same("no solution", 0, mill.search(1));
        Check.same("tries at a1", 2, mill.count(8));
        int[] triesOfTurns = {2 + 4, 2 + 4 + 8 + 16, 2 + 4 + 8, 2};
        for (int turn = 0; turn < 4; turn++) {
            mill.change(0);
            Check.same("no solution, turn " + turn, 0, mill.search(1));
            Check.same("tries, turn " + turn, triesOfTurns[turn], mill.count(8));
        }
    }

    private static void testChangeStateBehind() {
        RiddleMill mill = Check.mill("grid 2 3 3;rows;is a1 1;");
        mill.put(0, 2);
        mill.search(2);
        mill.clear();
        mill.put(1, 3);
        int tries = mill.count(8);
        mill.write();
        String paper = Check.paper(mill);
        mill.reason();
        mill.feed(1, 2, 3, 4, 5);
        mill.change(0);
        Check.same("no solutions", 0, mill.count(7));
        Check.same("tries stay", tries, mill.count(8));
        Check.same("the paper stays", paper, Check.paper(mill));
        Check.same("the tape stays", 20, mill.count(9));
        Check.same("passes are gone", 0, mill.reasoned(0));
        Check.same("the grade is gone", 0, mill.reasoned(1));
        Check.same("the grid", "000003", Check.grid(mill));
        Check.same("the sets are those of the grid", "7 7 7 7 7 4", Check.sets(mill));
    }

    private static void testChangeRefuses() {
        RiddleMill mill = Check.mill("grid 2 3 3;rows;is a1 1;");
        mill.search(2);
        RiddleMill empty = new RiddleMill();
        int[] wrong = {-1, 2, Integer.MIN_VALUE, Integer.MAX_VALUE};
        for (int sort : wrong) {
            Check.refused("change " + sort, mill, ARGUMENT, () -> mill.change(sort));
            Check.refused("no puzzle: change " + sort, empty, ARGUMENT, () -> empty.change(sort));
        }
        Check.refused("no puzzle: change 0", empty, STATE, () -> empty.change(0));
        Check.refused("no puzzle: change 1", empty, STATE, () -> empty.change(1));
    }
}
