import java.util.function.Supplier;

/** Promise 9. */
public final class RunTest {
    public static void main(String[] args) {
        Check.sentence("`run()` is refused (answers -1) if the phase is `PHASE_BUILD`",
                RunTest::isRefusedWhileBuilding);
        Check.sentence("ORIG := INIT and the original program runs on ORIG; FUSED := INIT",
                RunTest::startsFromInitEveryTime);
        Check.sentence("every scalar := 0", RunTest::scalarsDoNotOutliveARun);
        Check.sentence("the run count grows by 1", RunTest::countsRuns);
        Check.sentence("INIT, loops, statements, flags and the phase do not change",
                RunTest::changesOnlyResults);
        Check.sentence("ORIG of a contracted array is computed by the original program like any "
                + "other; FUSED of a contracted array keeps the INIT contents",
                RunTest::contractedArrays);
        Check.sentence("It answers the number of pairs (x, n), x in 0..A-1 with CONTRACTED(x) false "
                + "and n in 0..N-1, such that ORIG[x][n] != FUSED[x][n]",
                RunTest::contractedArraysDoNotCount);
        Check.sentence("the transformed program leaves every array that is not contracted exactly as "
                + "the original program does", RunTest::keepsResultsWhereLoopsMayNotFuse);
        Check.sentence("every call of `run()` answers either -1 (refused, in `PHASE_BUILD`) or 0",
                RunTest::answersZero);
        Check.sentence("At every point of every sequence of calls, for every array x with "
                + "`arrayInfo(x, A_CONTRACTED) == 0` and every n in 0..N-1, "
                + "`getOriginal(x, n) == getFused(x, n)`", RunTest::resultsAreEqualAtEveryPoint);
        Check.sentence("0 if L == 0", RunTest::runsNothing);
        Check.sentence("if lo > hi it runs no iteration", RunTest::runsNoIterationOfEmptyLoops);
        Check.sentence("a loop with bounds lo, hi and no statements",
                RunTest::runsLoopsWithoutStatements);
        Check.sentence("`MAX_LOOPS = 8`, `MAX_STATEMENTS = 12`", RunTest::runsTheGreatestProgram);
        Check.end();
    }

    private static void expect(String name, LoopFuser x, int array, int... due) {
        for (int index = 0; index < due.length; index++) {
            Check.equal(name + ": original " + index, x.getOriginal(array, index), due[index]);
            Check.equal(name + ": fused " + index, x.getFused(array, index), due[index]);
        }
    }

    private static void analyzeAndRun(String name, LoopFuser x) {
        x.analyze();
        Check.equal(name + ": run", x.run(), 0);
    }

    private static void isRefusedWhileBuilding() {
        for (Supplier<LoopFuser> building : Programs.building()) {
            Twins.unseen("early run", building, LoopFuser::run, -1);
        }
        for (int arrays = 2; arrays <= 6; arrays++) {
            for (int length = 4; length <= 16; length++) {
                int a = arrays;
                int n = length;
                Twins.unseen("early run", () -> new LoopFuser(a, n), LoopFuser::run, -1);
            }
        }
        LoopFuser x = new LoopFuser(2, 4);
        x.analyze();
        Check.equal("run as soon as analyzed", x.run(), 0);
    }

    private static void startsFromInitEveryTime() {
        LoopFuser x = new LoopFuser(2, 4);
        x.setInit(0, 2, 5);
        x.addLoop(0, 3);
        x.addStatement(LoopFuser.OP_ADD, 0, 1, 0);
        x.setArrayOperand(0, 0, 1, 0);
        x.setValueOperand(1, LoopFuser.OPND_CONST, 1);
        x.analyze();
        for (int n = 1; n <= 3; n++) {
            Check.equal("run " + n, x.run(), 0);
            expect("run " + n, x, 0, 1, 1, 6, 1);
        }
        x.setInit(0, 2, -1);
        Check.equal("run from other contents", x.run(), 0);
        expect("run from other contents", x, 0, 1, 1, 0, 1);
        for (int arrays = 2; arrays <= 6; arrays++) {
            for (int length = 4; length <= 16; length++) {
                loadsEveryCell(arrays, length);
            }
        }
    }

    private static void loadsEveryCell(int arrays, int length) {
        LoopFuser x = new LoopFuser(arrays, length);
        x.analyze();
        for (int round = 0; round < 2; round++) {
            for (int array = 0; array < arrays; array++) {
                for (int index = 0; index < length; index++) {
                    x.setInit(array, index, 1000 * round + 20 * array + index);
                }
            }
            Check.equal("run", x.run(), 0);
            for (int array = 0; array < arrays; array++) {
                for (int index = 0; index < length; index++) {
                    int due = 1000 * round + 20 * array + index;
                    Check.equal("original", x.getOriginal(array, index), due);
                    Check.equal("fused", x.getFused(array, index), due);
                }
            }
        }
    }

    /** By condition (e) a scalar is written before it is read, so only stale ones could be seen. */
    private static void scalarsDoNotOutliveARun() {
        LoopFuser x = Programs.analyzed();
        for (int value : Values.any()) {
            x.setInit(0, 1, value);
            Check.equal("run", x.run(), 0);
            int due = (value + 6) * 3;
            Check.equal("original", x.getOriginal(1, 6), due);
            Check.equal("fused", x.getFused(1, 6), due);
        }
    }

    private static void countsRuns() {
        LoopFuser x = Programs.built();
        x.run();
        Check.equal("a refused run", x.query(LoopFuser.Q_RUNS), 0);
        x.analyze();
        Check.equal("no run", x.query(LoopFuser.Q_RUNS), 0);
        // More than a short could count.
        for (int n = 1; n <= 70000; n++) {
            Check.equal("run", x.run(), 0);
            Check.equal("Q_RUNS", x.query(LoopFuser.Q_RUNS), n);
        }
        Check.equal("the last run", x.getFused(1, 6), 48);
    }

    private static void changesOnlyResults() {
        LoopFuser x = Programs.analyzed();
        int[] before = Check.state(x);
        Check.equal("run", x.run(), 0);
        Check.changed("run", before, x, "query 5: 1",
                "original 0 1: 10", "original 0 3: 20", "fused 0 1: 10", "fused 0 3: 20",
                "original 1 4: 24", "original 1 5: 81", "original 1 6: 48", "original 1 7: 15",
                "fused 1 4: 24", "fused 1 5: 81", "fused 1 6: 48", "fused 1 7: 15",
                "original 2 1: 5", "original 2 2: 16", "original 2 3: 27", "original 2 4: 8",
                "fused 2 1: 77", "original 3 7: -4", "fused 3 7: -4");
        for (Supplier<LoopFuser> late : Programs.late()) {
            LoopFuser y = late.get();
            y.run();
            before = Check.state(y);
            int runs = y.query(LoopFuser.Q_RUNS);
            Check.equal("run again", y.run(), 0);
            Check.changed("run again", before, y, "query 5: " + (runs + 1));
        }
    }

    private static void contractedArrays() {
        for (int array = 0; array < 6; array++) {
            LoopFuser x = new LoopFuser(6, 16);
            Programs.fillInit(x);
            x.setTemp(array, true);
            Programs.fillLoop(x, 0, 15, Programs.ref(array, 1, 0));
            int other = (array + 1) % 6;
            Programs.copyLoop(x, 0, 15, Programs.ref(other, 1, 0), Programs.ref(array, 1, 0));
            analyzeAndRun("contracted", x);
            Check.equal("contracted", x.arrayInfo(array, LoopFuser.A_CONTRACTED), 1);
            for (int i = 0; i < 16; i++) {
                Check.equal("original", x.getOriginal(array, i), i + 1);
                Check.equal("fused", x.getFused(array, i), 100 * (array + 1) + i);
                Check.equal("copy, original", x.getOriginal(other, i), i + 1);
                Check.equal("copy, fused", x.getFused(other, i), i + 1);
            }
        }
    }

    private static void contractedArraysDoNotCount() {
        for (int flags = 1; flags < 64; flags++) {
            LoopFuser x = new LoopFuser(6, 16);
            for (int array = 0; array < 6; array++) {
                x.setTemp(array, (flags >> array & 1) == 1);
                Programs.fillLoop(x, 0, 15, Programs.ref(array, 1, 0));
            }
            x.analyze();
            Check.equal("run", x.run(), 0);
            int different = 0;
            for (int array = 0; array < 6; array++) {
                for (int index = 0; index < 16; index++) {
                    boolean same = x.getOriginal(array, index) == x.getFused(array, index);
                    different += same ? 0 : 1;
                }
            }
            Check.equal("cells that differ", different, 16 * Integer.bitCount(flags));
        }
    }

    private static void keepsResultsWhereLoopsMayNotFuse() {
        LoopFuser x = new LoopFuser(3, 4);
        Programs.fillLoop(x, 0, 3, Programs.ref(0, 1, 0));
        Programs.copyLoop(x, 0, 3, Programs.ref(1, 1, 0), Programs.ref(0, 1, 1));
        Programs.copyLoop(x, 0, 3, Programs.ref(2, 1, 0), Programs.ref(1, 1, -1));
        analyzeAndRun("two groups", x);
        Check.equal("two groups", x.query(LoopFuser.Q_GROUPS), 2);
        expect("two groups", x, 0, 1, 2, 3, 4);
        expect("two groups", x, 1, 2, 3, 4, 0);
        expect("two groups", x, 2, 0, 2, 3, 4);
    }

    private static void answersZero() {
        for (Supplier<LoopFuser> building : Programs.building()) {
            LoopFuser x = building.get();
            for (int n = 0; n < 3; n++) {
                Check.equal("early run", x.run(), -1);
            }
            x.analyze();
            for (int n = 0; n < 3; n++) {
                Check.equal("run", x.run(), 0);
            }
        }
    }

    private static void expectEqualResults(LoopFuser x) {
        for (int array = 0; array < x.query(LoopFuser.Q_ARRAYS); array++) {
            if (x.arrayInfo(array, LoopFuser.A_CONTRACTED) == 0) {
                for (int index = 0; index < x.query(LoopFuser.Q_LENGTH); index++) {
                    Check.equal("fused as original", x.getFused(array, index),
                            x.getOriginal(array, index));
                }
            }
        }
    }

    private static void resultsAreEqualAtEveryPoint() {
        for (Supplier<LoopFuser> state : Programs.every()) {
            LoopFuser x = state.get();
            expectEqualResults(x);
            for (int n = 0; n < 3; n++) {
                x.setInit(n, 7 - n, -n);
                expectEqualResults(x);
                x.run();
                expectEqualResults(x);
                x.addStatement(0, 0, 1, 0);
                x.setArrayOperand(0, 3, 1, 1);
                expectEqualResults(x);
                x.analyze();
                expectEqualResults(x);
            }
        }
    }

    private static void runsNothing() {
        LoopFuser x = new LoopFuser(2, 4);
        x.setInit(1, 3, 7);
        x.setTemp(1, true);
        x.analyze();
        int[] before = Check.state(x);
        Check.equal("run of nothing", x.run(), 0);
        Check.changed("run of nothing", before, x, "query 5: 1", "original 1 3: 7", "fused 1 3: 7");
    }

    private static void runsNoIterationOfEmptyLoops() {
        LoopFuser x = new LoopFuser(2, 4);
        x.setInit(0, 0, 9);
        Programs.fillLoop(x, 1, 0, Programs.ref(0, 1, 0));
        Programs.fillLoop(x, 15, 0, Programs.ref(0, 0, 0));
        Programs.fillLoop(x, 15, 0, Programs.ref(0, 0, 0));
        analyzeAndRun("no iteration", x);
        expect("no iteration", x, 0, 9, 0, 0, 0);
        // A contracted array of such a group is not touched in either result.
        LoopFuser y = new LoopFuser(2, 4);
        Programs.fillInit(y);
        y.setTemp(0, true);
        Programs.fillLoop(y, 1, 0, Programs.ref(0, 1, 0));
        Programs.copyLoop(y, 1, 0, Programs.ref(1, 1, 0), Programs.ref(0, 1, 0));
        analyzeAndRun("no iteration, contracted", y);
        Check.equal("contracted", y.arrayInfo(0, LoopFuser.A_CONTRACTED), 1);
        expect("no iteration, contracted", y, 0, 100, 101, 102, 103);
        expect("no iteration, contracted", y, 1, 200, 201, 202, 203);
    }

    private static void runsLoopsWithoutStatements() {
        LoopFuser x = new LoopFuser(2, 4);
        x.addLoop(0, 3);
        Programs.fillLoop(x, 0, 3, Programs.ref(0, 1, 0));
        x.addLoop(0, 3);
        x.addLoop(1, 2);
        Programs.fillLoop(x, 1, 2, Programs.ref(1, 1, 0));
        analyzeAndRun("without statements", x);
        expect("without statements", x, 0, 1, 2, 3, 4);
        expect("without statements", x, 1, 0, 2, 3, 0);
        LoopFuser y = Programs.empty();
        for (int loop = 0; loop < 8; loop++) {
            y.addLoop(0, 15);
        }
        analyzeAndRun("no statement at all", y);
        expect("no statement at all", y, 3, 400, 401, 402, 403, 404, 405, 406, 407);
    }

    private static void runsTheGreatestProgram() {
        for (int own = 0; own <= 1; own++) {
            LoopFuser x = new LoopFuser(6, 16);
            for (int array = 0; array < 6; array++) {
                x.setTemp(array, true);
            }
            for (int stmt = 0; stmt < 12; stmt++) {
                if (stmt < 8) {
                    x.addLoop(own == 1 ? stmt % 2 : 0, 15);
                }
                x.addStatement(LoopFuser.OP_ADD, 4, 1, 0);
                x.setArrayOperand(0, 4, 1, 0);
                x.setValueOperand(1, LoopFuser.OPND_INDEX, 0);
            }
            analyzeAndRun("the greatest program", x);
            Check.equal("its groups", x.query(LoopFuser.Q_GROUPS), own == 1 ? 8 : 1);
            Check.equal("its contracted arrays", x.query(LoopFuser.Q_CONTRACTED), 0);
            for (int index = 0; index < 16; index++) {
                Check.equal("its original " + index, x.getOriginal(4, index), 12 * index);
                Check.equal("its fused " + index, x.getFused(4, index), 12 * index);
            }
        }
    }
}
