import java.math.BigInteger;

/** Edges of single calls, and what the document says of all calls that throw. */
public final class CallEdgesTest {
    private static final Class<IndexOutOfBoundsException> OUTSIDE = IndexOutOfBoundsException.class;
    private static final Class<IllegalArgumentException> ARGUMENT = IllegalArgumentException.class;
    private static final Class<IllegalStateException> STATE = IllegalStateException.class;
    private static final int[] FAR = {Integer.MIN_VALUE, Integer.MIN_VALUE + 1, -65536, -2, -1};
    private static final String TEXT = "grid 3 2 4;rows;sum 5 a1 b1;count 1 1 a1 b1 c1;less a2 b2;is c2 4;";

    private CallEdgesTest() {
    }

    public static void main(String[] args) {
        testWhereEachByteGoes();
        testEachByteValue();
        testTrimToEachLength();
        testErrorAtWithoutCompile();
        testEmptyTape();
        testCountsWithoutPuzzle();
        testPartsThatRulesLack();
        testRulesBehindADroppedOne();
        testDropOfAllRules();
        testShorterPaperTakesThePlace();
        testLastByteOfThePaper();
        testValuesOfEachCell();
        testFullGrid();
        testRefusedCallsChangeNothing();
        testRefusedCallsWithoutPuzzle();
        testTheExceptionThatIsNamedFirst();
        testNoPuzzleBehindAnError();
        testDigestWrapsAround();
        testDigestOfEachPart();
        testTheLastOfAllCalls();
        Check.end();
    }

    // "the four bytes of each number, the highest one first": a wrong byte at each of the places.
    private static void testWhereEachByteGoes() {
        RiddleMill mill = new RiddleMill();
        for (int place = 0; place < 40; place++) {
            int[] numbers = new int[10];
            for (int i = 0; i < 40; i++) {
                numbers[i / 4] = numbers[i / 4] << 8 | (i == place ? '!' : ' ');
            }
            mill.feed(numbers[0], numbers[1], numbers[2], numbers[3], numbers[4]);
            mill.feed(numbers[5], numbers[6], numbers[7], numbers[8], numbers[9]);
            Check.same("an error", 1, mill.compile());
            Check.same("its place", place, mill.errorAt());
        }
    }

    // Negative numbers, too: a byte is told by its eight bits alone.
    private static void testEachByteValue() {
        RiddleMill mill = new RiddleMill();
        for (int sign = 0; sign <= 255; sign++) {
            boolean isBlank = sign == 32 || sign == 10;
            for (int shift = 0; shift <= 24; shift += 8) {
                int number = 0x20202020 & ~(255 << shift) | sign << shift;
                mill.feed(0x20202020, number, 0x20202020, 0x20202020, 0x20202020);
                Check.same("an error of " + sign, 1, mill.compile());
                Check.same("its place", isBlank ? 20 : 4 + 3 - shift / 8, mill.errorAt());
            }
        }
    }

    private static void testTrimToEachLength() {
        RiddleMill mill = new RiddleMill();
        Check.same("a full tape", 1600, Check.feed(mill, Check.repeat(" ", 1600)));
        Check.refused("one more than a full tape", mill, ARGUMENT, () -> mill.trim(1601));
        for (int length = 1600; length >= 0; length -= 7) {
            int more = length + 1;
            Check.same("trim", length, mill.trim(length));
            Check.same("bytes", length, mill.count(9));
            Check.throwing("trim to one more", ARGUMENT, () -> mill.trim(more));
            Check.same("the same once more", length, mill.trim(length));
        }
        Check.same("none", 0, mill.trim(0));
        Check.refused("one of none", mill, ARGUMENT, () -> mill.trim(1));
        for (int n : FAR) {
            Check.refused("trim to " + n, mill, ARGUMENT, () -> mill.trim(n));
        }
    }

    private static void testErrorAtWithoutCompile() {
        RiddleMill mill = new RiddleMill();
        Check.same("there was none", -1, mill.errorAt());
        Check.feed(mill, "x");
        mill.trim(0);
        Check.same("there still was none", -1, mill.errorAt());
        Check.compile(mill, " x");
        Check.same("an error", 1, mill.errorAt());
        mill.trim(0);
        mill.feed(0, 0, 0, 0, 0);
        Check.throwing("write", STATE, () -> mill.write());
        Check.same("it is told till the next compile", 1, mill.errorAt());
        mill.trim(0);
        Check.compile(mill, TEXT);
        Check.same("it had none", -1, mill.errorAt());
    }

    private static void testEmptyTape() {
        RiddleMill mill = Check.mill(TEXT);
        String before = Check.state(mill).replaceAll("error -?\\d+", "");
        Check.same("error of an empty tape", 1, mill.compile());
        Check.same("at its length", 0, mill.errorAt());
        Check.same("all is as it was", before, Check.state(mill).replaceAll("error -?\\d+", ""));
    }

    // "(0 to 2: 0 without a puzzle)", and what there is of others then.
    private static void testCountsWithoutPuzzle() {
        RiddleMill mill = new RiddleMill();
        mill.feed(1, 2, 3, 4, 5);
        for (int what = 0; what <= 10; what++) {
            Check.same("count " + what, what == 9 ? 20 : 0, mill.count(what));
        }
        mill.compile();
        for (int what = 0; what <= 10; what++) {
            Check.same("count behind an error " + what, 0, mill.count(what));
        }
        for (int what : FAR) {
            Check.refused("count " + what, mill, OUTSIDE, () -> mill.count(what));
            Check.refused("count " + (9 - what), mill, OUTSIDE, () -> mill.count(what == -1 ? 11 : 9 - what));
        }
    }

    // "0 if it has none", "of count, otherwise 0", "-1 if it has fewer"
    private static void testPartsThatRulesLack() {
        String[] rules = {"differ", "sum 7", "product 6", "less", "up", "see 1", "odd", "even", "count 2 3",
            "is", "apart 1", "same"};
        int[] numbers = {0, 7, 6, 0, 0, 1, 0, 0, 2, 4, 1, 0};
        String[] cells = {" a1", " b1", " c1", " a2", " b2"};
        for (int kind = 0; kind < rules.length; kind++) {
            for (int size = kind == 3 ? 2 : 1; size <= (kind == 3 ? 2 : kind == 9 ? 1 : 5); size++) {
                StringBuilder rule = new StringBuilder(rules[kind]);
                for (int i = 0; i < size; i++) {
                    rule.append(cells[i]);
                }
                RiddleMill mill = Check.mill("grid 3 2 5;" + rule + (kind == 9 ? " 4;" : ";"));
                Check.same("kind of " + rule, kind, mill.rule(0, 0));
                Check.same("number of " + rule, numbers[kind], mill.rule(0, 1));
                Check.same("how often of " + rule, kind == 8 ? 3 : 0, mill.rule(0, 2));
                Check.same("size of " + rule, size, mill.rule(0, 3));
                for (int i = 0; i < 5; i++) {
                    Check.same("cell " + i + " of " + rule, i < size ? i : -1, mill.rule(0, 4 + i));
                }
            }
        }
    }

    // "those behind it have numbers that are 1 less", those ahead of it have the same.
    private static void testRulesBehindADroppedOne() {
        for (int dropped = 0; dropped < 40; dropped++) {
            StringBuilder text = new StringBuilder("grid 2 2 2;");
            for (int rule = 0; rule < 40; rule++) {
                text.append("sum ").append(100 + rule).append(" a1;");
            }
            RiddleMill mill = Check.mill(text.toString());
            Check.same("rules that are left", 39, mill.drop(dropped));
            for (int rule = 0; rule < 39; rule++) {
                Check.same("rule " + rule, 100 + rule + (rule < dropped ? 0 : 1), mill.rule(rule, 1));
            }
            Check.refused("no rule 39", mill, OUTSIDE, () -> mill.rule(39, 1));
        }
    }

    private static void testDropOfAllRules() {
        RiddleMill mill = Check.mill("grid 2 2 2;" + Check.repeat("odd a1;", 40));
        for (int left = 39; left >= 0; left--) {
            int behind = left + 1;
            Check.refused("behind the last one", mill, OUTSIDE, () -> mill.drop(behind));
            Check.same("rules that are left", left, mill.drop(left / 2));
        }
        Check.refused("none is left", mill, OUTSIDE, () -> mill.drop(0));
        Check.refused("none can be needed", mill, OUTSIDE, () -> mill.isNeeded(0));
        Check.same("all grids", 16, mill.search(30));
        Check.same("the puzzle is still there", "grid 2 2 2;", Check.written(mill));
    }

    // "in the place of what was there"
    private static void testShorterPaperTakesThePlace() {
        RiddleMill mill = Check.mill("grid 2 2 2;rows;");
        int before = mill.write();
        Check.same("bytes", 11 + 2 * 13, before);
        mill.drop(0);
        Check.same("they stay till write", before, mill.count(10));
        Check.same("a rule less", 11 + 13, mill.write());
        Check.refused("what was behind is gone", mill, OUTSIDE, () -> mill.byteAt(24));
        mill.drop(0);
        Check.same("no rules", 11, mill.write());
        Check.same("the last byte", ';', mill.byteAt(10));
        Check.refused("nothing follows on it", mill, OUTSIDE, () -> mill.byteAt(11));
    }

    private static void testLastByteOfThePaper() {
        RiddleMill mill = Check.mill(TEXT);
        int length = mill.write();
        String due = "grid 3 2 4;differ a1 b1 c1;differ a2 b2 c2;"
                + "sum 5 a1 b1;count 1 1 a1 b1 c1;less a2 b2;is c2 4;";
        Check.same("its length", due.length(), length);
        for (int k = 0; k < length; k++) {
            Check.same("byte " + k, due.charAt(k), mill.byteAt(k));
        }
        Check.refused("behind the last byte", mill, OUTSIDE, () -> mill.byteAt(length));
        for (int k : FAR) {
            Check.refused("byteAt " + k, mill, OUTSIDE, () -> mill.byteAt(k));
            Check.refused("byteAt far behind", mill, OUTSIDE, () -> mill.byteAt(length - 1 - k));
        }
    }

    private static void testValuesOfEachCell() {
        for (int w = 2; w <= 5; w++) {
            for (int h = 2; h <= 5; h++) {
                int k = 2 + (w + h) % 4;
                int cells = w * h;
                RiddleMill mill = Check.mill("grid " + w + " " + h + " " + k + ";");
                for (int cell = 0; cell < cells; cell++) {
                    int at = cell;
                    for (int value = 1; value <= k; value++) {
                        Check.same("the value before", value - 1, mill.put(cell, value));
                        Check.same("the value", value, mill.value(cell));
                    }
                    Check.throwing("more than k", ARGUMENT, () -> mill.put(at, k + 1));
                    Check.throwing("less than 0", ARGUMENT, () -> mill.put(at, -1));
                    Check.same("none in its place", k, mill.put(cell, 0));
                    Check.same("it is empty", 0, mill.value(cell));
                }
                Check.throwing("value behind the last cell", OUTSIDE, () -> mill.value(cells));
                Check.throwing("put behind the last cell", OUTSIDE, () -> mill.put(cells, 1));
                Check.throwing("value ahead of the first cell", OUTSIDE, () -> mill.value(-1));
                Check.throwing("put ahead of the first cell", OUTSIDE, () -> mill.put(-1, 1));
            }
        }
    }

    private static void testFullGrid() {
        for (int w = 2; w <= 5; w++) {
            for (int h = 2; h <= 5; h++) {
                RiddleMill mill = Check.mill("grid " + w + " " + h + " 2;");
                for (int cell = 0; cell < w * h; cell++) {
                    Check.same("filled cells", cell, mill.count(5));
                    mill.put(cell, 2);
                }
                Check.same("all are filled", w * h, mill.count(5));
                Check.same("clear of all", w * h, mill.clear());
                Check.same("none is filled", 0, mill.count(5));
                Check.same("clear of none", 0, mill.clear());
            }
        }
    }

    /** A mill of which everything is there. */
    private static RiddleMill richMill() {
        RiddleMill mill = Check.mill(TEXT);
        mill.put(0, 2);
        mill.put(5, 4);
        mill.search(3);
        mill.look();
        mill.reason();
        mill.write();
        mill.feed(1, 2, 3, 4, 5);
        return mill;
    }

    // "A method that throws an exception changes nothing."
    private static void testRefusedCallsChangeNothing() {
        RiddleMill mill = richMill();
        Check.feed(mill, Check.repeat("x", 1561));
        Check.same("solutions are there", true, mill.count(7) > 0);
        long digest = mill.digest();
        Check.refused("feed", mill, STATE, () -> mill.feed(1, 2, 3, 4, 5));
        Check.refused("trim", mill, ARGUMENT, () -> mill.trim(1582));
        Check.refused("count", mill, OUTSIDE, () -> mill.count(11));
        Check.refused("rule", mill, OUTSIDE, () -> mill.rule(6, 0));
        Check.refused("rule, what", mill, OUTSIDE, () -> mill.rule(0, 10));
        Check.refused("drop", mill, OUTSIDE, () -> mill.drop(6));
        Check.refused("byteAt", mill, OUTSIDE, () -> mill.byteAt(mill.count(10)));
        Check.refused("put", mill, OUTSIDE, () -> mill.put(6, 1));
        Check.refused("put of a value", mill, ARGUMENT, () -> mill.put(0, 5));
        Check.refused("value", mill, OUTSIDE, () -> mill.value(6));
        Check.refused("search for none", mill, ARGUMENT, () -> mill.search(0));
        Check.refused("search for too many", mill, ARGUMENT, () -> mill.search(31));
        Check.refused("solution", mill, OUTSIDE, () -> mill.solution(mill.count(7), 0));
        Check.refused("isNeeded", mill, OUTSIDE, () -> mill.isNeeded(6));
        Check.refused("possible", mill, OUTSIDE, () -> mill.possible(6));
        Check.refused("hint", mill, OUTSIDE, () -> mill.hint(4));
        Check.refused("reasoned", mill, OUTSIDE, () -> mill.reasoned(4));
        Check.refused("make", mill, ARGUMENT, () -> mill.make(65536));
        Check.refused("change", mill, ARGUMENT, () -> mill.change(2));
        Check.same("the digest", digest, mill.digest());
    }

    private static void testRefusedCallsWithoutPuzzle() {
        RiddleMill mill = new RiddleMill();
        Check.compile(mill, "  x");
        mill.feed(1, 2, 3, 4, 5);
        Check.refused("write", mill, STATE, () -> mill.write());
        Check.refused("search", mill, STATE, () -> mill.search(1));
        Check.refused("make", mill, STATE, () -> mill.make(0));
        Check.refused("change", mill, STATE, () -> mill.change(0));
        Check.refused("put", mill, OUTSIDE, () -> mill.put(0, 0));
        Check.refused("value", mill, OUTSIDE, () -> mill.value(0));
        Check.refused("solution", mill, OUTSIDE, () -> mill.solution(0, 0));
        Check.refused("possible", mill, OUTSIDE, () -> mill.possible(0));
        Check.refused("rule", mill, OUTSIDE, () -> mill.rule(0, 0));
        Check.refused("drop", mill, OUTSIDE, () -> mill.drop(0));
        Check.refused("isNeeded", mill, OUTSIDE, () -> mill.isNeeded(0));
        Check.refused("byteAt", mill, OUTSIDE, () -> mill.byteAt(0));
        Check.same("hint", -1, mill.hint(0));
        Check.same("step", false, mill.step());
        Check.same("clear", 0, mill.clear());
        Check.same("look", 0, mill.look());
        Check.same("reason", 0, mill.reason());
        Check.same("one pass", 1, mill.reasoned(0));
        Check.sameDouble("doubt", 0.0, mill.doubt());
    }

    // "If several exceptions apply, the one that is named first is thrown."
    private static void testTheExceptionThatIsNamedFirst() {
        RiddleMill mill = richMill();
        RiddleMill empty = new RiddleMill();
        Check.refused("put: cell and value", mill, OUTSIDE, () -> mill.put(6, 5));
        Check.refused("put: cell and value below", mill, OUTSIDE, () -> mill.put(-1, -1));
        Check.refused("put: no puzzle", empty, OUTSIDE, () -> empty.put(0, 1));
        Check.refused("search: most and no puzzle", empty, ARGUMENT, () -> empty.search(0));
        Check.refused("search: more and no puzzle", empty, ARGUMENT, () -> empty.search(31));
        Check.refused("make: seed and no puzzle", empty, ARGUMENT, () -> empty.make(-1));
        Check.refused("make: greater seed and no puzzle", empty, ARGUMENT, () -> empty.make(65536));
        Check.refused("change: sort and no puzzle", empty, ARGUMENT, () -> empty.change(-1));
        Check.refused("change: greater sort and no puzzle", empty, ARGUMENT, () -> empty.change(2));
        Check.refused("hint: no puzzle", empty, OUTSIDE, () -> empty.hint(-1));
        Check.refused("rule: both", mill, OUTSIDE, () -> mill.rule(-1, -1));
        Check.refused("solution: both", mill, OUTSIDE, () -> mill.solution(-1, -1));
    }

    private static void testNoPuzzleBehindAnError() {
        String[] texts = {"", "grid", "grid 1 2 2;", "grid 2 2 2;odd c1;", "grid 2 2 2;up a1 a1;",
            "grid 5 5 5;up a1 b1 c1 d1 e1 e2;", "grid 2 2 2;" + Check.repeat("up a1;", 41)};
        int[] due = {1, 1, 2, 2, 3, 4, 4};
        for (int i = 0; i < texts.length; i++) {
            RiddleMill mill = new RiddleMill();
            Check.same("error of " + texts[i], due[i], Check.compile(mill, texts[i]));
            Check.throwing("write", STATE, () -> mill.write());
            Check.same("columns", 0, mill.count(0));
            Check.same("rows", 0, mill.count(1));
            Check.same("values", 0, mill.count(2));
            Check.same("rules", 0, mill.count(3));
            Check.same("tape", 0, mill.count(9));
        }
    }

    /** The document's words, with numbers that do not wrap around by themselves. */
    private static long digest(RiddleMill mill) {
        BigInteger[] d = {BigInteger.valueOf(457)};
        for (int what = 0; what <= 10; what++) {
            add(d, mill.count(what));
        }
        for (int rule = 0; rule < mill.count(3); rule++) {
            for (int what = 0; what <= 9; what++) {
                add(d, mill.rule(rule, what));
            }
        }
        int cells = mill.count(0) * mill.count(1);
        for (int cell = 0; cell < cells; cell++) {
            add(d, mill.value(cell));
            add(d, mill.possible(cell));
        }
        for (int index = 0; index < mill.count(7); index++) {
            for (int cell = 0; cell < cells; cell++) {
                add(d, mill.solution(index, cell));
            }
        }
        for (int what = 0; what <= 3; what++) {
            add(d, mill.reasoned(what));
        }
        for (int k = 0; k < mill.count(10); k++) {
            add(d, mill.byteAt(k));
        }
        return d[0].longValue();
    }

    private static void add(BigInteger[] d, int x) {
        d[0] = d[0].multiply(BigInteger.valueOf(31)).add(BigInteger.valueOf(x));
    }

    private static void testDigestWrapsAround() {
        RiddleMill empty = new RiddleMill();
        Check.same("15 numbers are more than 64 bits", digest(empty), empty.digest());
        RiddleMill mill = richMill();
        Check.same("a rich mill", digest(mill), mill.digest());
        mill.make(3);
        mill.search(30);
        mill.write();
        Check.same("another one", digest(mill), mill.digest());
        RiddleMill full = Check.mill("grid 5 5 5;" + Check.repeat("sum 25 a1 b1 c1 d1 e1;", 40));
        full.make(5);
        full.search(30);
        full.write();
        full.reason();
        Check.same("the fullest one", digest(full), full.digest());
    }

    // Each part that changes changes the digest.
    private static void testDigestOfEachPart() {
        RiddleMill mill = Check.mill(TEXT);
        long[] digests = new long[10];
        digests[0] = mill.digest();
        mill.feed(1, 2, 3, 4, 5);
        digests[1] = mill.digest();
        mill.put(2, 1);
        digests[2] = mill.digest();
        mill.look();
        digests[3] = mill.digest();
        mill.step();
        digests[4] = mill.digest();
        mill.reason();
        digests[5] = mill.digest();
        mill.search(3);
        digests[6] = mill.digest();
        mill.write();
        digests[7] = mill.digest();
        mill.drop(2);
        digests[8] = mill.digest();
        mill.change(1);
        digests[9] = mill.digest();
        for (int i = 0; i < digests.length; i++) {
            for (int j = 0; j < i; j++) {
                Check.same("digests " + j + " and " + i + " differ", true, digests[i] != digests[j]);
            }
        }
        Check.same("the last one", digest(mill), digests[9]);
    }

    // "An object is used for at most 512 calls": the last ones answer as those of a new object.
    private static void testTheLastOfAllCalls() {
        RiddleMill old = new RiddleMill();
        RiddleMill fresh = new RiddleMill();
        Check.feed(old, TEXT);
        int calls = TEXT.length() / 20 + 2;
        old.compile();
        for (calls++; calls < 490; calls++) {
            int turn = calls % 7;
            if (turn == 0) {
                old.make(calls);
            } else if (turn == 1) {
                old.search(30);
            } else if (turn == 2) {
                old.reason();
            } else if (turn == 3) {
                old.change(calls & 1);
            } else if (turn == 4) {
                old.isNeeded(0);
            } else if (turn == 5) {
                old.write();
            } else {
                old.put(calls % 6, calls % 5);
            }
        }
        for (RiddleMill mill : new RiddleMill[] {old, fresh}) {
            Check.same("compile", 0, Check.compile(mill, TEXT));
            Check.same("search", true, mill.search(4) > 0);
            mill.write();
            mill.reason();
        }
        Check.same("the digest", fresh.digest(), old.digest());
        Check.same("the state", Check.state(fresh), Check.state(old));
        Check.same("make", fresh.make(99), old.make(99));
        Check.same("the digest then", fresh.digest(), old.digest());
    }
}
