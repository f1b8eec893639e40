import java.util.Map;

/** Promise 9, with "Execution" of the document. */
public final class RunTest {
    private static final int MIN = Integer.MIN_VALUE;
    private static final int MAX = Integer.MAX_VALUE;

    public static void main(String[] args) {
        isRefusedWhileBuilding();
        runsNothing();
        changesOnlyResults();
        computesAndWraps();
        readsZeroOutOfRange();
        dropsWritesOutOfRange();
        goesUpwards();
        keepsTheOrderOfStatements();
        runsNoIterationOfEmptyLoops();
        startsFromInitEveryTime();
        keepsResultsWhereLoopsMayNotFuse();
        runsLoopsWithoutStatements();
        runsTheGreatestProgram();
        Check.end();
    }

    private static void expect(String name, LoopFuser x, int array, int... due) {
        for (int index = 0; index < due.length; index++) {
            Check.equal(name + ": original " + index, x.getOriginal(array, index), due[index]);
            Check.equal(name + ": fused " + index, x.getFused(array, index), due[index]);
        }
    }

    private static void analyzeAndRun(String name, LoopFuser x) {
        x.analyze();
        Check.equal(name + ": run", x.run(), 0);
    }

    private static void isRefusedWhileBuilding() {
        for (LoopFuser x : new LoopFuser[] {new LoopFuser(2, 4), Programs.built()}) {
            Map<String, Integer> before = Check.state(x);
            Check.equal("early run", x.run(), -1);
            Check.unchanged("early run", before, x);
        }
    }

    private static void runsNothing() {
        LoopFuser x = new LoopFuser(2, 4);
        x.setInit(1, 3, 7);
        x.analyze();
        Map<String, Integer> before = Check.state(x);
        Check.equal("run of nothing", x.run(), 0);
        Check.changed("run of nothing", before, x, "query 5: 1", "original 1 3: 7", "fused 1 3: 7");
    }

    private static void changesOnlyResults() {
        LoopFuser x = Programs.analyzed();
        Map<String, Integer> before = Check.state(x);
        Check.equal("run", x.run(), 0);
        Check.changed("run", before, x, "query 5: 1",
                "original 0 1: 10", "original 0 3: 20", "fused 0 1: 10", "fused 0 3: 20",
                "original 1 4: 24", "original 1 5: 81", "original 1 6: 48", "original 1 7: 15",
                "fused 1 4: 24", "fused 1 5: 81", "fused 1 6: 48", "fused 1 7: 15",
                "original 2 1: 5", "original 2 2: 16", "original 2 3: 27", "original 2 4: 8",
                "fused 2 1: 77", "original 3 7: -4", "fused 3 7: -4");
        before = Check.state(x);
        Check.equal("second run", x.run(), 0);
        Check.changed("second run", before, x, "query 5: 2");
    }

    private static void computes(int op, int kind0, int value0, int kind1, int value1, int due) {
        LoopFuser x = new LoopFuser(2, 4);
        x.addLoop(3, 3);
        x.addStatement(op, 0, 1, -1);
        x.setValueOperand(0, kind0, value0);
        x.setValueOperand(1, kind1, value1);
        String name = "op " + op + " of " + kind0 + ":" + value0 + " and " + kind1 + ":" + value1;
        analyzeAndRun(name, x);
        expect(name, x, 0, 0, 0, due, 0);
    }

    private static void computesAndWraps() {
        int constant = LoopFuser.OPND_CONST;
        int index = LoopFuser.OPND_INDEX;
        computes(LoopFuser.OP_ADD, constant, 7, constant, -9, -2);
        computes(LoopFuser.OP_SUB, constant, 7, constant, -9, 16);
        computes(LoopFuser.OP_SUB, constant, -9, constant, 7, -16);
        computes(LoopFuser.OP_MUL, constant, 7, constant, -9, -63);
        computes(LoopFuser.OP_ADD, constant, MAX, constant, 1, MIN);
        computes(LoopFuser.OP_SUB, constant, MIN, constant, 1, MAX);
        computes(LoopFuser.OP_MUL, constant, MAX, constant, MAX, 1);
        computes(LoopFuser.OP_MUL, constant, MIN, constant, -1, MIN);
        computes(LoopFuser.OP_MUL, constant, 65536, constant, 65536, 0);
        computes(LoopFuser.OP_ADD, index, 0, constant, 10, 13);
        computes(LoopFuser.OP_SUB, constant, 10, index, 2, 5);
        computes(LoopFuser.OP_ADD, index, MAX, constant, 0, MIN + 2);
        computes(LoopFuser.OP_ADD, index, MIN, constant, 0, MIN + 3);
        computes(LoopFuser.OP_MUL, index, -3, index, 100, 0);
    }

    private static void readsZeroOutOfRange() {
        LoopFuser x = new LoopFuser(3, 4);
        for (int array = 0; array < 3; array++) {
            for (int index = 0; index < 4; index++) {
                x.setInit(array, index, 10 * array + index + 1);
            }
        }
        x.addLoop(0, 3);
        x.addStatement(LoopFuser.OP_ADD, 0, 1, 0);
        x.setArrayOperand(0, 1, 2, -1);
        x.setArrayOperand(1, 2, -1, 4);
        analyzeAndRun("reads out of range", x);
        expect("reads out of range", x, 0, 0, 12 + 24, 14 + 23, 22);
        expect("the array read", x, 1, 11, 12, 13, 14);
    }

    private static void dropsWritesOutOfRange() {
        LoopFuser x = new LoopFuser(3, 4);
        for (int array = 0; array < 3; array++) {
            for (int index = 0; index < 4; index++) {
                x.setInit(array, index, 50);
            }
        }
        x.addLoop(0, 15);
        x.addStatement(LoopFuser.OP_ADD, 1, 2, -7);
        x.setValueOperand(0, LoopFuser.OPND_INDEX, 0);
        x.addStatement(LoopFuser.OP_ADD, 1, 0, 4);
        x.addStatement(LoopFuser.OP_ADD, 1, 0, -1);
        analyzeAndRun("writes out of range", x);
        expect("writes out of range", x, 0, 50, 50, 50, 50);
        expect("writes out of range", x, 1, 50, 4, 50, 5);
        expect("writes out of range", x, 2, 50, 50, 50, 50);
    }

    private static void goesUpwards() {
        LoopFuser x = new LoopFuser(2, 5);
        x.setInit(0, 0, 1);
        x.addLoop(1, 4);
        x.addStatement(LoopFuser.OP_MUL, 0, 1, 0);
        x.setArrayOperand(0, 0, 1, -1);
        x.setValueOperand(1, LoopFuser.OPND_INDEX, 0);
        x.addStatement(LoopFuser.OP_ADD, 1, 0, 0);
        x.setValueOperand(0, LoopFuser.OPND_INDEX, 0);
        analyzeAndRun("factorials", x);
        expect("factorials", x, 0, 1, 1, 2, 6, 24);
        expect("last iteration", x, 1, 4, 0, 0, 0, 0);
    }

    private static void keepsTheOrderOfStatements() {
        LoopFuser x = new LoopFuser(4, 4);
        x.addLoop(0, 2);
        x.addStatement(LoopFuser.OP_ADD, 0, 1, 0);
        x.setValueOperand(0, LoopFuser.OPND_INDEX, 1);
        x.addStatement(LoopFuser.OP_MUL, 0, 1, 0);
        x.setArrayOperand(0, 0, 1, 0);
        x.setArrayOperand(1, 0, 1, 0);
        x.addLoop(0, 2);
        x.addStatement(LoopFuser.OP_SUB, 1, 1, 1);
        x.setArrayOperand(0, 0, 1, 0);
        x.setArrayOperand(1, 1, 1, 0);
        analyzeAndRun("order", x);
        Check.equal("order: groups", x.query(LoopFuser.Q_GROUPS), 1);
        expect("order", x, 0, 1, 4, 9, 0);
        expect("order", x, 1, 0, 1, 3, 6);
    }

    private static void runsNoIterationOfEmptyLoops() {
        LoopFuser x = new LoopFuser(2, 4);
        x.setInit(0, 0, 9);
        Programs.fillLoop(x, 1, 0, Programs.ref(0, 1, 0));
        Programs.fillLoop(x, 15, 0, Programs.ref(0, 0, 0));
        analyzeAndRun("no iteration", x);
        expect("no iteration", x, 0, 9, 0, 0, 0);
    }

    private static void startsFromInitEveryTime() {
        LoopFuser x = new LoopFuser(2, 4);
        x.setInit(0, 2, 5);
        x.addLoop(0, 3);
        x.addStatement(LoopFuser.OP_ADD, 0, 1, 0);
        x.setArrayOperand(0, 0, 1, 0);
        x.setValueOperand(1, LoopFuser.OPND_CONST, 1);
        x.analyze();
        for (int n = 1; n <= 3; n++) {
            Check.equal("run " + n, x.run(), 0);
            Check.equal("runs", x.query(LoopFuser.Q_RUNS), n);
            expect("run " + n, x, 0, 1, 1, 6, 1);
        }
        x.setInit(0, 2, -1);
        Check.equal("run from other contents", x.run(), 0);
        expect("run from other contents", x, 0, 1, 1, 0, 1);
    }

    private static void keepsResultsWhereLoopsMayNotFuse() {
        LoopFuser x = new LoopFuser(3, 4);
        Programs.fillLoop(x, 0, 3, Programs.ref(0, 1, 0));
        Programs.copyLoop(x, 0, 3, Programs.ref(1, 1, 0), Programs.ref(0, 1, 1));
        Programs.copyLoop(x, 0, 3, Programs.ref(2, 1, 0), Programs.ref(1, 1, -1));
        analyzeAndRun("two groups", x);
        Check.equal("two groups", x.query(LoopFuser.Q_GROUPS), 2);
        expect("two groups", x, 0, 1, 2, 3, 4);
        expect("two groups", x, 1, 2, 3, 4, 0);
        expect("two groups", x, 2, 0, 2, 3, 4);
    }

    private static void runsLoopsWithoutStatements() {
        LoopFuser x = new LoopFuser(2, 4);
        x.addLoop(0, 3);
        Programs.fillLoop(x, 0, 3, Programs.ref(0, 1, 0));
        x.addLoop(0, 3);
        x.addLoop(1, 2);
        Programs.fillLoop(x, 1, 2, Programs.ref(1, 1, 0));
        analyzeAndRun("without statements", x);
        expect("without statements", x, 0, 1, 2, 3, 4);
        expect("without statements", x, 1, 0, 2, 3, 0);
    }

    private static void runsTheGreatestProgram() {
        LoopFuser x = new LoopFuser(6, 16);
        for (int array = 0; array < 6; array++) {
            x.setTemp(array, true);
        }
        for (int stmt = 0; stmt < 12; stmt++) {
            if (stmt < 8) {
                x.addLoop(0, 15);
            }
            x.addStatement(LoopFuser.OP_ADD, 4, 1, 0);
            x.setArrayOperand(0, 4, 1, 0);
            x.setValueOperand(1, LoopFuser.OPND_INDEX, 0);
        }
        analyzeAndRun("the greatest program", x);
        Check.equal("its groups", x.query(LoopFuser.Q_GROUPS), 1);
        Check.equal("its contracted arrays", x.query(LoopFuser.Q_CONTRACTED), 0);
        for (int index = 0; index < 16; index++) {
            Check.equal("its original " + index, x.getOriginal(4, index), 12 * index);
            Check.equal("its fused " + index, x.getFused(4, index), 12 * index);
        }
    }
}
