import java.util.Map;

/** Promise 3. */
public final class AddLoopTest {
    public static void main(String[] args) {
        acceptsEveryBound();
        appendsAfterStatements();
        refusesWrongBounds();
        refusesTheNinthLoop();
        isRefusedAfterAnalysis();
        Check.end();
    }

    private static void added(LoopFuser x, int loop, int lo, int hi, int statements) {
        Map<String, Integer> before = Check.state(x);
        String name = "addLoop(" + lo + ", " + hi + ")";
        Check.equal(name, x.addLoop(lo, hi), loop);
        Check.changed(name, before, x,
                "query 0: " + (loop + 1),
                "loop " + loop + " 0: " + lo, "loop " + loop + " 1: " + hi,
                "loop " + loop + " 2: " + statements, "loop " + loop + " 3: 0",
                "loop " + loop + " 4: -1", "loop " + loop + " 5: -1", "loop " + loop + " 6: 1000");
    }

    private static void acceptsEveryBound() {
        for (int lo = 0; lo <= 15; lo++) {
            for (int hi = 0; hi <= 15; hi++) {
                added(new LoopFuser(2, 4), 0, lo, hi, 0);
            }
        }
    }

    private static void appendsAfterStatements() {
        LoopFuser x = Programs.built();
        added(x, 2, 15, 0, 2);
        added(x, 3, 7, 7, 2);
        Check.equal("addStatement", x.addStatement(0, 0, 0, 0), 2);
        Check.equal("its loop", x.stmtInfo(2, LoopFuser.S_LOOP), 3);
        added(x, 4, 0, 15, 3);
    }

    private static void refusesWrongBounds() {
        LoopFuser x = Programs.built();
        Map<String, Integer> before = Check.state(x);
        for (int wrong : new int[] {-1, 16, Integer.MIN_VALUE, Integer.MAX_VALUE}) {
            Check.equal("addLoop(" + wrong + ", 3)", x.addLoop(wrong, 3), -1);
            Check.equal("addLoop(3, " + wrong + ")", x.addLoop(3, wrong), -1);
            Check.equal("addLoop twice " + wrong, x.addLoop(wrong, wrong), -1);
            Check.unchanged("addLoop of " + wrong, before, x);
        }
    }

    private static void refusesTheNinthLoop() {
        LoopFuser x = new LoopFuser(2, 4);
        for (int loop = 0; loop < 8; loop++) {
            added(x, loop, loop, 15 - loop, 0);
        }
        Map<String, Integer> before = Check.state(x);
        Check.equal("the ninth loop", x.addLoop(0, 3), -1);
        Check.unchanged("the ninth loop", before, x);
    }

    private static void isRefusedAfterAnalysis() {
        LoopFuser x = Programs.analyzed();
        Map<String, Integer> before = Check.state(x);
        Check.equal("late addLoop", x.addLoop(0, 3), -1);
        Check.unchanged("late addLoop", before, x);
    }
}
