import java.util.List;
import java.util.function.Supplier;

/** Promise 3. */
public final class AddLoopTest {
    public static void main(String[] args) {
        Check.sentence("appends a loop with bounds lo, hi and no statements, and answers its number "
                + "(the old L); L grows by 1", AddLoopTest::appendsEveryLoop);
        Check.sentence("The new loop's `L_FIRST` is the value of S at this moment and its `L_COUNT` "
                + "is 0", AddLoopTest::startsAtTheStatementCount);
        Check.sentence("It becomes the last loop, so statements added afterwards belong to it",
                AddLoopTest::takesTheNextStatements);
        Check.sentence("Refused (answers -1) if, in this order: the phase is not `PHASE_BUILD`",
                AddLoopTest::isRefusedLate);
        Check.sentence("L == `MAX_LOOPS`", AddLoopTest::refusesTheNinthLoop);
        Check.sentence("lo not in 0..15", AddLoopTest::refusesWrongLo);
        Check.sentence("hi not in 0..15", AddLoopTest::refusesWrongHi);
        Check.sentence("lo > hi is allowed (the loop runs no iteration)",
                AddLoopTest::allowsLoAboveHi);
        Check.sentence("Nothing else changes: existing loops and statements, flags, contents, phase "
                + "and the run count stay as they were", AddLoopTest::changesNothingElse);
        Check.end();
    }

    private static void add(LoopFuser x, int loop, int lo, int hi, int statements) {
        int[] before = Check.state(x);
        String name = "addLoop(" + lo + ", " + hi + ")";
        Check.equal(name, x.addLoop(lo, hi), loop);
        String l = "loop " + loop + " ";
        Check.changed(name, before, x, "query 0: " + (loop + 1), l + "0: " + lo, l + "1: " + hi,
                l + "2: " + statements, l + "3: 0", l + "4: -1", l + "5: -1", l + "6: 1000");
    }

    private static void appendsEveryLoop() {
        for (int lo = 0; lo <= 15; lo++) {
            for (int hi = lo; hi <= 15; hi++) {
                LoopFuser x = new LoopFuser(2, 4);
                for (int loop = 0; loop < 8; loop++) {
                    add(x, loop, lo, hi, 0);
                }
            }
        }
    }

    private static void startsAtTheStatementCount() {
        for (int statements = 0; statements <= 12; statements++) {
            LoopFuser x = new LoopFuser(2, 4);
            x.addLoop(0, 3);
            for (int stmt = 0; stmt < statements; stmt++) {
                x.addStatement(0, 0, 1, 0);
            }
            add(x, 1, 0, 3, statements);
            add(x, 2, 0, 3, statements);
        }
    }

    private static void takesTheNextStatements() {
        LoopFuser x = new LoopFuser(2, 4);
        for (int loop = 0; loop < 8; loop++) {
            x.addLoop(0, 3);
            int stmt = x.addStatement(0, 0, 1, 0);
            Check.equal("loop of statement " + stmt, x.stmtInfo(stmt, LoopFuser.S_LOOP), loop);
            Check.equal("count of " + loop, x.loopInfo(loop, LoopFuser.L_COUNT), 1);
        }
        for (int stmt = 8; stmt < 12; stmt++) {
            x.addStatement(0, 0, 1, 0);
            Check.equal("loop of statement " + stmt, x.stmtInfo(stmt, LoopFuser.S_LOOP), 7);
        }
        LoopFuser y = new LoopFuser(2, 4);
        y.addLoop(0, 3);
        y.addLoop(15, 0);
        y.addStatement(0, 0, 1, 0);
        Check.equal("loop after an empty one", y.stmtInfo(0, LoopFuser.S_LOOP), 1);
        Check.equal("count of the empty one", y.loopInfo(0, LoopFuser.L_COUNT), 0);
    }

    private static void isRefusedLate() {
        for (Supplier<LoopFuser> late : Programs.late()) {
            Twins.unseen("late addLoop(0, 3)", late, x -> x.addLoop(0, 3), -1);
            Twins.unseen("late addLoop(15, 0)", late, x -> x.addLoop(15, 0), -1);
            Twins.unseen("late addLoop(-1, 16)", late, x -> x.addLoop(-1, 16), -1);
        }
    }

    private static void refusesTheNinthLoop() {
        LoopFuser x = new LoopFuser(2, 4);
        for (int loop = 0; loop < LoopFuser.MAX_LOOPS; loop++) {
            add(x, loop, loop, 15 - loop, 0);
        }
        for (Supplier<LoopFuser> full : List.<Supplier<LoopFuser>>of(
                Programs::fullOfLoops, Programs::full, AddLoopTest::eightWithoutStatement)) {
            Twins.unseen("the ninth loop", full, y -> y.addLoop(0, 3), -1);
            Twins.unseen("the ninth loop, empty", full, y -> y.addLoop(15, 0), -1);
            Twins.unseen("the ninth loop with wrong bounds", full, y -> y.addLoop(16, -1), -1);
        }
    }

    private static LoopFuser eightWithoutStatement() {
        LoopFuser x = Programs.empty();
        for (int loop = 0; loop < 8; loop++) {
            x.addLoop(15 - loop, loop);
        }
        return x;
    }

    private static void refusesWrongLo() {
        for (Supplier<LoopFuser> building : Programs.building()) {
            for (int wrong : Values.outside(0, 15)) {
                for (int hi : new int[] {0, 15, wrong}) {
                    Twins.unseen("addLoop(" + wrong + ", " + hi + ")", building,
                            x -> x.addLoop(wrong, hi), -1);
                }
            }
        }
        Check.equal("least lo", new LoopFuser(2, 4).addLoop(0, 7), 0);
        Check.equal("greatest lo", new LoopFuser(2, 4).addLoop(15, 7), 0);
    }

    private static void refusesWrongHi() {
        for (Supplier<LoopFuser> building : Programs.building()) {
            for (int wrong : Values.outside(0, 15)) {
                for (int lo : new int[] {0, 15, wrong}) {
                    Twins.unseen("addLoop(" + lo + ", " + wrong + ")", building,
                            x -> x.addLoop(lo, wrong), -1);
                }
            }
        }
        Check.equal("least hi", new LoopFuser(2, 4).addLoop(7, 0), 0);
        Check.equal("greatest hi", new LoopFuser(2, 4).addLoop(7, 15), 0);
    }

    private static void allowsLoAboveHi() {
        for (int hi = 0; hi <= 15; hi++) {
            for (int lo = hi + 1; lo <= 15; lo++) {
                LoopFuser x = new LoopFuser(2, 16);
                add(x, 0, lo, hi, 0);
                for (int offset = 0; offset <= 11; offset++) {
                    x.addStatement(LoopFuser.OP_ADD, 0, 0, offset);
                    x.setValueOperand(0, LoopFuser.OPND_CONST, 5);
                }
                x.analyze();
                int[] before = Check.state(x);
                Check.equal("run", x.run(), 0);
                Check.changed("no iteration of " + lo + ".." + hi, before, x, "query 5: 1");
            }
        }
    }

    private static void changesNothingElse() {
        LoopFuser x = Programs.built();
        add(x, 2, 15, 0, 2);
        add(x, 3, 7, 7, 2);
        x.addStatement(0, 0, 0, 0);
        add(x, 4, 0, 15, 3);
        for (Supplier<LoopFuser> building : Programs.building()) {
            LoopFuser y = building.get();
            int loop = y.query(LoopFuser.Q_LOOPS);
            if (loop < LoopFuser.MAX_LOOPS) {
                add(y, loop, 3, 9, y.query(LoopFuser.Q_STATEMENTS));
            }
        }
    }
}
