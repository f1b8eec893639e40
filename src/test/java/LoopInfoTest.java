import java.util.function.Supplier;

/** Promise 11. */
public final class LoopInfoTest {
    public static void main(String[] args) {
        Check.sentence("answers, for loop in 0..L-1, changing nothing", LoopInfoTest::changesNothing);
        Check.sentence("`L_LO`, `L_HI`: its bounds", LoopInfoTest::bounds);
        Check.sentence("`L_FIRST`: S at the moment the loop was added", LoopInfoTest::first);
        Check.sentence("`L_COUNT`: its number of statements", LoopInfoTest::count);
        Check.sentence("`L_GROUP`: its group number (-1 in `PHASE_BUILD`)", LoopInfoTest::group);
        Check.sentence("`L_JOIN`: join(loop) (-1 in `PHASE_BUILD`)", LoopInfoTest::join);
        Check.sentence("`L_DIST`: dist(loop) (`NONE` in `PHASE_BUILD`)", LoopInfoTest::dist);
        Check.sentence("Loop not in 0..L-1", LoopInfoTest::otherLoops);
        Check.sentence("or any other `what`: `INVALID`", LoopInfoTest::otherSelectors);
        Check.end();
    }

    private static void expect(String name, LoopFuser x, int what, int... due) {
        for (int loop = 0; loop < due.length; loop++) {
            Check.equal(name + " " + loop, x.loopInfo(loop, what), due[loop]);
        }
    }

    /** Loops of every join: first, fused, other bounds, dependence, and one without iteration. */
    private static LoopFuser fiveLoops() {
        LoopFuser x = new LoopFuser(4, 8);
        Programs.fillLoop(x, 0, 7, Programs.ref(0, 1, 0));
        Programs.copyLoop(x, 0, 7, Programs.ref(1, 1, 0), Programs.ref(0, 1, -2));
        Programs.fillLoop(x, 0, 6, Programs.ref(2, 1, 0));
        x.addStatement(0, 2, 1, 0);
        Programs.copyLoop(x, 0, 6, Programs.ref(3, 1, 0), Programs.ref(2, 1, 5));
        x.addLoop(15, 0);
        return x;
    }

    private static void changesNothing() {
        for (Supplier<LoopFuser> state : Programs.every()) {
            for (int what = 0; what <= 6; what++) {
                int w = what;
                int last = state.get().query(LoopFuser.Q_LOOPS) - 1;
                for (int loop : new int[] {0, last}) {
                    int due = state.get().loopInfo(loop, w);
                    Twins.unseen("loopInfo", state, x -> x.loopInfo(loop, w), due);
                }
            }
        }
    }

    private static void bounds() {
        for (int lo = 0; lo <= 15; lo++) {
            for (int hi = 0; hi <= 15; hi++) {
                LoopFuser x = new LoopFuser(2, 4);
                x.addLoop(15 - lo, 15 - hi);
                x.addLoop(lo, hi);
                for (int n = 0; n < 3; n++) {
                    expect("L_LO", x, LoopFuser.L_LO, 15 - lo, lo);
                    expect("L_HI", x, LoopFuser.L_HI, 15 - hi, hi);
                    x.analyze();
                    x.run();
                }
            }
        }
    }

    private static void first() {
        LoopFuser x = fiveLoops();
        for (int n = 0; n < 3; n++) {
            expect("L_FIRST", x, LoopFuser.L_FIRST, 0, 1, 2, 4, 5);
            x.analyze();
            x.run();
        }
        LoopFuser y = Programs.fullOfStatements();
        y.addLoop(0, 0);
        y.addLoop(0, 0);
        expect("L_FIRST, full", y, LoopFuser.L_FIRST, 0, 5, 12, 12);
    }

    private static void count() {
        LoopFuser x = fiveLoops();
        for (int n = 0; n < 3; n++) {
            expect("L_COUNT", x, LoopFuser.L_COUNT, 1, 1, 2, 1, 0);
            x.analyze();
            x.run();
        }
        LoopFuser y = new LoopFuser(2, 4);
        y.addLoop(0, 0);
        for (int stmt = 0; stmt < 12; stmt++) {
            expect("L_COUNT", y, LoopFuser.L_COUNT, stmt);
            y.addStatement(0, 0, 0, 0);
        }
        y.addStatement(0, 0, 0, 0);
        expect("L_COUNT, full", y, LoopFuser.L_COUNT, 12);
    }

    private static void group() {
        LoopFuser x = fiveLoops();
        expect("building", x, LoopFuser.L_GROUP, -1, -1, -1, -1, -1);
        x.analyze();
        expect("analyzed", x, LoopFuser.L_GROUP, 0, 0, 1, 2, 3);
        x.run();
        x.analyze();
        expect("ever after", x, LoopFuser.L_GROUP, 0, 0, 1, 2, 3);
        expect("building, full", Programs.full(), LoopFuser.L_GROUP, -1, -1, -1, -1, -1, -1, -1, -1);
    }

    private static void join() {
        LoopFuser x = fiveLoops();
        expect("building", x, LoopFuser.L_JOIN, -1, -1, -1, -1, -1);
        x.analyze();
        expect("analyzed", x, LoopFuser.L_JOIN, 0, 1, 2, 3, 2);
        x.run();
        x.analyze();
        expect("ever after", x, LoopFuser.L_JOIN, 0, 1, 2, 3, 2);
        expect("building, full", Programs.full(), LoopFuser.L_JOIN, -1, -1, -1, -1, -1, -1, -1, -1);
    }

    private static void dist() {
        LoopFuser x = fiveLoops();
        expect("building", x, LoopFuser.L_DIST, 1000, 1000, 1000, 1000, 1000);
        x.analyze();
        expect("analyzed", x, LoopFuser.L_DIST, 1000, 2, 1000, -5, 1000);
        x.run();
        x.analyze();
        expect("ever after", x, LoopFuser.L_DIST, 1000, 2, 1000, -5, 1000);
        expect("building, full", Programs.full(), LoopFuser.L_DIST,
                1000, 1000, 1000, 1000, 1000, 1000, 1000, 1000);
    }

    private static void otherLoops() {
        for (Supplier<LoopFuser> state : Programs.every()) {
            int loops = state.get().query(LoopFuser.Q_LOOPS);
            for (int what = 0; what <= 6; what++) {
                int w = what;
                for (int loop : Values.outside(0, loops - 1)) {
                    Twins.unseen("loopInfo(" + loop + ", " + w + ")", state,
                            x -> x.loopInfo(loop, w), LoopFuser.INVALID);
                }
            }
        }
        LoopFuser x = new LoopFuser(2, 4);
        for (int loops = 0; loops < 8; loops++) {
            for (int loop = -1; loop <= 8; loop++) {
                int due = loop >= 0 && loop < loops ? 3 : LoopFuser.INVALID;
                Check.equal("loop " + loop + " of " + loops, x.loopInfo(loop, LoopFuser.L_LO), due);
            }
            x.addLoop(3, 0);
        }
        Check.equal("loop 7 of 8", x.loopInfo(7, LoopFuser.L_LO), 3);
        Check.equal("loop 8 of 8", x.loopInfo(8, LoopFuser.L_LO), LoopFuser.INVALID);
    }

    private static void otherSelectors() {
        for (Supplier<LoopFuser> state : Programs.every()) {
            int last = state.get().query(LoopFuser.Q_LOOPS) - 1;
            for (int what : Values.outside(0, 6)) {
                for (int loop : new int[] {0, last, last + 1}) {
                    Twins.unseen("loopInfo(" + loop + ", " + what + ")", state,
                            x -> x.loopInfo(loop, what), LoopFuser.INVALID);
                }
            }
        }
    }
}
