/** Promises 1 to 3: a new object, feed and trim. */
public final class TapeTest {
    private TapeTest() {
    }

    public static void main(String[] args) {
        testNewMill();
        testFeedCounts();
        testFeedPutsTheHighestByteFirst();
        testFeedTakesBytesAbove127();
        testFeedRefusesMoreThan1600();
        testTrim();
        testTapeIsEmptyBehindCompile();
        Check.end();
    }

    private static void testNewMill() {
        RiddleMill mill = new RiddleMill();
        for (int what = 0; what <= 10; what++) {
            Check.same("new: count " + what, 0, mill.count(what));
        }
        Check.same("new: errorAt", -1, mill.errorAt());
        Check.same("new: look", 0, mill.look());
        Check.same("new: clear", 0, mill.clear());
        Check.same("new: step", false, mill.step());
        Check.sameDouble("new: doubt", 0.0, mill.doubt());
        for (int what = 0; what <= 3; what++) {
            Check.same("new: hint " + what, -1, mill.hint(what));
            Check.same("new: reasoned " + what, 0, mill.reasoned(what));
        }
        Class<IndexOutOfBoundsException> outside = IndexOutOfBoundsException.class;
        Class<IllegalStateException> state = IllegalStateException.class;
        Check.refused("new: rule", mill, outside, () -> mill.rule(0, 0));
        Check.refused("new: drop", mill, outside, () -> mill.drop(0));
        Check.refused("new: isNeeded", mill, outside, () -> mill.isNeeded(0));
        Check.refused("new: put", mill, outside, () -> mill.put(0, 0));
        Check.refused("new: value", mill, outside, () -> mill.value(0));
        Check.refused("new: possible", mill, outside, () -> mill.possible(0));
        Check.refused("new: solution", mill, outside, () -> mill.solution(0, 0));
        Check.refused("new: byteAt", mill, outside, () -> mill.byteAt(0));
        Check.refused("new: write", mill, state, () -> mill.write());
        Check.refused("new: search", mill, state, () -> mill.search(1));
        Check.refused("new: make", mill, state, () -> mill.make(0));
        Check.refused("new: change", mill, state, () -> mill.change(0));
    }

    private static void testFeedCounts() {
        RiddleMill mill = new RiddleMill();
        Check.same("feed once", 20, mill.feed(0, 0, 0, 0, 0));
        Check.same("feed twice", 40, mill.feed(-1, -1, -1, -1, -1));
        Check.same("bytes of the tape", 40, mill.count(9));
    }

    private static void testFeedPutsTheHighestByteFirst() {
        RiddleMill mill = new RiddleMill();
        // "grid", " 2 3", " 4;i", "s b3", " 4; "
        mill.feed(0x67726964, 0x20322033, 0x20343b69, 0x73206233, 0x20343b20);
        Check.same("compile of what was fed", 0, mill.compile());
        Check.same("what was fed", "grid 2 3 4;is b3 4;", Check.written(mill));
    }

    private static void testFeedTakesBytesAbove127() {
        RiddleMill mill = new RiddleMill();
        // The fifth byte is 0xa0, which is a blank only if its highest bit is lost.
        mill.feed(0x67726964, 0xa0322032, 0x20323b20, 0x20202020, 0x20202020);
        Check.same("compile with the byte 160", 1, mill.compile());
        Check.same("where the byte 160 stands", 4, mill.errorAt());
        mill.feed(0x20202020, 0x20202020, 0x20202020, 0x20202020, 0x202020ff);
        Check.same("compile with the byte 255", 1, mill.compile());
        Check.same("where the byte 255 stands", 19, mill.errorAt());
    }

    private static void testFeedRefusesMoreThan1600() {
        RiddleMill mill = new RiddleMill();
        for (int i = 1; i <= 79; i++) {
            Check.same("feed " + i, 20 * i, mill.feed(i, i, i, i, i));
        }
        mill.trim(1579);
        Check.same("feed up to 1599", 1599, mill.feed(1, 1, 1, 1, 1));
        Check.refused("feed at 1599", mill, IllegalStateException.class, () -> mill.feed(1, 1, 1, 1, 1));
        mill.trim(1581);
        Check.refused("feed at 1581", mill, IllegalStateException.class, () -> mill.feed(1, 1, 1, 1, 1));
        mill.trim(1580);
        Check.same("feed up to 1600", 1600, mill.feed(1, 1, 1, 1, 1));
        Check.refused("feed at 1600", mill, IllegalStateException.class, () -> mill.feed(1, 1, 1, 1, 1));
        Check.same("compile of 1600 bytes", 1, mill.compile());
        String text = "grid 2 2 2;" + Check.repeat(" ", 1589);
        Check.same("a full tape", 1600, Check.feed(mill, text));
        Check.same("compile of a full tape", 0, mill.compile());
    }

    private static void testTrim() {
        RiddleMill mill = new RiddleMill();
        Check.same("trim of an empty tape", 0, mill.trim(0));
        Check.refused("trim of an empty tape to 1", mill, IllegalArgumentException.class, () -> mill.trim(1));
        mill.feed(0, 0, 0, 0, 0);
        Check.same("trim to all", 20, mill.trim(20));
        Check.refused("trim to 21", mill, IllegalArgumentException.class, () -> mill.trim(21));
        Check.refused("trim to -1", mill, IllegalArgumentException.class, () -> mill.trim(-1));
        Check.refused("trim to the least", mill, IllegalArgumentException.class,
                () -> mill.trim(Integer.MIN_VALUE));
        Check.refused("trim to the most", mill, IllegalArgumentException.class,
                () -> mill.trim(Integer.MAX_VALUE));
        Check.same("trim to 7", 7, mill.trim(7));
        Check.same("bytes behind trim", 7, mill.count(9));
        Check.refused("trim back to 8", mill, IllegalArgumentException.class, () -> mill.trim(8));
        Check.same("feed behind trim", 27, mill.feed(0, 0, 0, 0, 0));
        Check.same("trim to none", 0, mill.trim(0));
        Check.same("the first bytes are kept", 14, Check.feed(mill, "grid 2 2 2;XXX"));
        mill.trim(11);
        Check.feed(mill, "odd a1;");
        Check.same("compile of what was kept and fed on", 0, mill.compile());
        Check.same("what was kept and fed on", "grid 2 2 2;odd a1;", Check.written(mill));
    }

    private static void testTapeIsEmptyBehindCompile() {
        RiddleMill mill = new RiddleMill();
        Check.feed(mill, "grid 2 2 2;");
        mill.compile();
        Check.same("the tape behind a puzzle", 0, mill.count(9));
        Check.feed(mill, "grid 2 2 2;no");
        mill.compile();
        Check.same("the tape behind an error", 0, mill.count(9));
        Check.same("the next feed", 20, mill.feed(0, 0, 0, 0, 0));
    }
}
