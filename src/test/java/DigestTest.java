/** Promise 26: digest. */
public final class DigestTest {
    private DigestTest() {
    }

    public static void main(String[] args) {
        testOfANewMill();
        testOfAllThatIsTold();
        testChangesNothing();
        Check.end();
    }

    private static long due(RiddleMill mill) {
        long d = 457;
        for (int what = 0; what <= 10; what++) {
            d = d * 31 + mill.count(what);
        }
        for (int rule = 0; rule < mill.count(3); rule++) {
            for (int what = 0; what <= 9; what++) {
                d = d * 31 + mill.rule(rule, what);
            }
        }
        int cells = mill.count(0) * mill.count(1);
        for (int cell = 0; cell < cells; cell++) {
            d = d * 31 + mill.value(cell);
            d = d * 31 + mill.possible(cell);
        }
        for (int index = 0; index < mill.count(7); index++) {
            for (int cell = 0; cell < cells; cell++) {
                d = d * 31 + mill.solution(index, cell);
            }
        }
        for (int what = 0; what <= 3; what++) {
            d = d * 31 + mill.reasoned(what);
        }
        for (int k = 0; k < mill.count(10); k++) {
            d = d * 31 + mill.byteAt(k);
        }
        return d;
    }

    private static void testOfANewMill() {
        long d = 457;
        for (int i = 0; i < 11 + 4; i++) {
            d = d * 31;
        }
        Check.same("a new mill", d, new RiddleMill().digest());
    }

    private static void testOfAllThatIsTold() {
        RiddleMill mill = new RiddleMill();
        mill.reason();
        Check.same("one pass", due(mill), mill.digest());
        mill.feed(1, 2, 3, 4, 5);
        Check.same("a tape", due(mill), mill.digest());
        Check.compile(mill, "x");
        Check.compile(mill, "grid 3 2 4;rows;sum 5 a1 b1;count 1 1 a1 b1 c1;less a2 b2;is c2 4;");
        Check.same("a puzzle", due(mill), mill.digest());
        mill.put(0, 3);
        mill.put(1, 3);
        Check.same("a grid that breaks rules", due(mill), mill.digest());
        mill.clear();
        Check.same("solutions are found", 18, mill.search(30));
        Check.same("solutions", due(mill), mill.digest());
        mill.reason();
        Check.same("reasoning", due(mill), mill.digest());
        mill.write();
        Check.same("a paper", due(mill), mill.digest());
        mill.change(0);
        Check.same("a change", due(mill), mill.digest());
        mill.make(50);
        Check.same("a make", due(mill), mill.digest());
        mill.drop(0);
        Check.same("a drop", due(mill), mill.digest());
    }

    private static void testChangesNothing() {
        RiddleMill mill = Check.mill("grid 3 2 4;rows;sum 5 a1 b1;");
        mill.put(5, 1);
        mill.search(5);
        mill.reason();
        mill.write();
        String before = Check.state(mill);
        long digest = mill.digest();
        Check.same("the state behind digest", before, Check.state(mill));
        Check.same("digest once more", digest, mill.digest());
    }
}
