import java.util.function.Supplier;

/** Promise 10. */
public final class QueryTest {
    public static void main(String[] args) {
        Check.sentence("`query(what)` answers, changing nothing", QueryTest::changesNothing);
        Check.sentence("`Q_LOOPS`: L", QueryTest::loops);
        Check.sentence("`Q_STATEMENTS`: S", QueryTest::statements);
        Check.sentence("`Q_PHASE`: the phase", QueryTest::phase);
        Check.sentence("`Q_GROUPS`: the number of groups (0 in `PHASE_BUILD`)", QueryTest::groups);
        Check.sentence("`Q_CONTRACTED`: the number of arrays with CONTRACTED",
                QueryTest::contracted);
        Check.sentence("`Q_RUNS`: the number of runs that were not refused", QueryTest::runs);
        Check.sentence("`Q_ARRAYS`: A", QueryTest::arrays);
        Check.sentence("`Q_LENGTH`: N", QueryTest::length);
        Check.sentence("Any other `what`: `INVALID`", QueryTest::otherSelectors);
        Check.end();
    }

    private static void changesNothing() {
        for (Supplier<LoopFuser> state : Programs.every()) {
            for (int what = 0; what <= 7; what++) {
                int w = what;
                int due = state.get().query(w);
                Twins.unseen("query " + w, state, x -> x.query(w), due);
            }
        }
    }

    private static void loops() {
        LoopFuser x = new LoopFuser(2, 4);
        for (int loop = 0; loop < 8; loop++) {
            Check.equal("Q_LOOPS", x.query(LoopFuser.Q_LOOPS), loop);
            x.addLoop(0, 0);
        }
        Check.equal("Q_LOOPS, full", x.query(LoopFuser.Q_LOOPS), 8);
        x.addLoop(0, 0);
        Check.equal("Q_LOOPS, refused", x.query(LoopFuser.Q_LOOPS), 8);
        x.analyze();
        Check.equal("Q_LOOPS, analyzed", x.query(LoopFuser.Q_LOOPS), 8);
    }

    private static void statements() {
        LoopFuser x = new LoopFuser(2, 4);
        x.addStatement(0, 0, 0, 0);
        x.addLoop(0, 0);
        for (int stmt = 0; stmt < 12; stmt++) {
            Check.equal("Q_STATEMENTS", x.query(LoopFuser.Q_STATEMENTS), stmt);
            x.addStatement(0, 0, 0, 0);
        }
        Check.equal("Q_STATEMENTS, full", x.query(LoopFuser.Q_STATEMENTS), 12);
        x.addStatement(0, 0, 0, 0);
        Check.equal("Q_STATEMENTS, refused", x.query(LoopFuser.Q_STATEMENTS), 12);
        x.analyze();
        Check.equal("Q_STATEMENTS, analyzed", x.query(LoopFuser.Q_STATEMENTS), 12);
    }

    private static void phase() {
        for (Supplier<LoopFuser> building : Programs.building()) {
            LoopFuser x = building.get();
            Check.equal("building", x.query(LoopFuser.Q_PHASE), LoopFuser.PHASE_BUILD);
            x.analyze();
            Check.equal("analyzed", x.query(LoopFuser.Q_PHASE), LoopFuser.PHASE_ANALYZED);
        }
    }

    private static void groups() {
        for (int loops = 0; loops <= 8; loops++) {
            LoopFuser x = new LoopFuser(2, 4);
            for (int loop = 0; loop < loops; loop++) {
                x.addLoop(loop / 2, 9);
            }
            Check.equal("building", x.query(LoopFuser.Q_GROUPS), 0);
            x.analyze();
            Check.equal("analyzed", x.query(LoopFuser.Q_GROUPS), (loops + 1) / 2);
            x.run();
            x.analyze();
            Check.equal("ever after", x.query(LoopFuser.Q_GROUPS), (loops + 1) / 2);
        }
    }

    private static void contracted() {
        for (int arrays = 2; arrays <= 6; arrays++) {
            for (int count = 0; count <= arrays; count++) {
                LoopFuser x = new LoopFuser(arrays, 8);
                for (int array = 0; array < arrays; array++) {
                    x.setTemp(array, true);
                }
                x.addLoop(0, 3);
                for (int array = arrays - count; array < arrays; array++) {
                    x.addStatement(0, array, 1, 0);
                }
                x.addLoop(0, 3);
                Check.equal("building", x.query(LoopFuser.Q_CONTRACTED), 0);
                x.analyze();
                Check.equal("analyzed", x.query(LoopFuser.Q_CONTRACTED), count);
            }
        }
    }

    private static void runs() {
        LoopFuser x = Programs.built();
        for (int n = 0; n < 3; n++) {
            x.run();
            Check.equal("refused runs", x.query(LoopFuser.Q_RUNS), 0);
        }
        x.analyze();
        for (int n = 0; n < 300; n++) {
            Check.equal("Q_RUNS", x.query(LoopFuser.Q_RUNS), n);
            x.run();
            x.analyze();
            x.addLoop(0, 3);
        }
        Check.equal("Q_RUNS", x.query(LoopFuser.Q_RUNS), 300);
    }

    private static void arrays() {
        for (int arrays : new int[] {Integer.MIN_VALUE, 1, 2, 3, 4, 5, 6, 7, Integer.MAX_VALUE}) {
            int due = Math.min(6, Math.max(2, arrays));
            Check.equal("Q_ARRAYS", new LoopFuser(arrays, 9).query(LoopFuser.Q_ARRAYS), due);
        }
        for (Supplier<LoopFuser> state : Programs.every()) {
            Check.equal("Q_ARRAYS", state.get().query(LoopFuser.Q_ARRAYS), 4);
        }
    }

    private static void length() {
        for (int length = 3; length <= 17; length++) {
            int due = Math.min(16, Math.max(4, length));
            Check.equal("Q_LENGTH", new LoopFuser(3, length).query(LoopFuser.Q_LENGTH), due);
        }
        for (int length : new int[] {Integer.MIN_VALUE, Integer.MAX_VALUE}) {
            int due = length < 0 ? 4 : 16;
            Check.equal("Q_LENGTH", new LoopFuser(3, length).query(LoopFuser.Q_LENGTH), due);
        }
        for (Supplier<LoopFuser> state : Programs.every()) {
            Check.equal("Q_LENGTH", state.get().query(LoopFuser.Q_LENGTH), 8);
        }
    }

    private static void otherSelectors() {
        for (Supplier<LoopFuser> state : Programs.every()) {
            for (int what : Values.outside(0, 7)) {
                Twins.unseen("query " + what, state, x -> x.query(what), LoopFuser.INVALID);
            }
            for (int what = -300; what <= 300; what++) {
                int got = state.get().query(what);
                Check.equal("query " + what, got == LoopFuser.INVALID ? 1 : 0,
                        what < 0 || what > 7 ? 1 : 0);
            }
        }
    }
}
