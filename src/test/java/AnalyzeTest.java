import java.util.Map;

/** Promise 8: groups, joins and distances. The contraction has its own test. */
public final class AnalyzeTest {
    private static final int A = 0;
    private static final int B = 1;
    private static final int C = 2;
    private static final int D = 3;
    private static final int E = 4;
    private static final int NONE = LoopFuser.NONE;

    public static void main(String[] args) {
        analyzesNothing();
        changesOnlyTheAnalysis();
        isRefusedTheSecondTime();
        findsFlowAntiAndOutputDistances();
        findsDistancesOfOtherCoefs();
        leavesOutCellsOutOfRange();
        findsNoDistanceWithoutIteration();
        looksAtEveryAccess();
        looksAtNoConflictInsideALoop();
        looksAtTheWholeGroupAndNoOther();
        takesTheLeastOfAll();
        testsBoundsFirst();
        loopsWithoutStatementsFuse();
        fusesEightLoops();
        Check.end();
    }

    private static int[] ref(int array, int coef, int offset) {
        return Programs.ref(array, coef, offset);
    }

    private static void expectLoop(String name, LoopFuser x, int loop, int group, int join, int dist) {
        Check.equal(name + ": group of " + loop, x.loopInfo(loop, LoopFuser.L_GROUP), group);
        Check.equal(name + ": join of " + loop, x.loopInfo(loop, LoopFuser.L_JOIN), join);
        Check.equal(name + ": dist of " + loop, x.loopInfo(loop, LoopFuser.L_DIST), dist);
    }

    private static void expectSecond(String name, LoopFuser x, int dist) {
        boolean fused = dist >= 0;
        Check.equal(name + ": groups", x.analyze(), fused ? 1 : 2);
        Check.equal(name + ": Q_GROUPS", x.query(LoopFuser.Q_GROUPS), fused ? 1 : 2);
        expectLoop(name, x, 0, 0, LoopFuser.J_FIRST, NONE);
        int join = fused ? LoopFuser.J_FUSED : LoopFuser.J_DEPENDENCE;
        expectLoop(name, x, 1, fused ? 0 : 1, join, dist);
    }

    /** Loop 0 writes the first reference, loop 1 reads the second. */
    private static void flow(String name, int length, int lo, int hi, int[] p, int[] q, int dist) {
        LoopFuser x = new LoopFuser(6, length);
        Programs.copyLoop(x, lo, hi, p, ref(A, 1, 0));
        Programs.copyLoop(x, lo, hi, ref(C, 1, 0), q);
        expectSecond("flow " + name, x, dist);
    }

    private static void anti(String name, int length, int lo, int hi, int[] p, int[] q, int dist) {
        LoopFuser x = new LoopFuser(6, length);
        Programs.copyLoop(x, lo, hi, ref(C, 1, 0), p);
        Programs.copyLoop(x, lo, hi, q, ref(A, 1, 0));
        expectSecond("anti " + name, x, dist);
    }

    private static void output(String name, int length, int lo, int hi, int[] p, int[] q, int dist) {
        LoopFuser x = new LoopFuser(6, length);
        Programs.fillLoop(x, lo, hi, p);
        Programs.fillLoop(x, lo, hi, q);
        expectSecond("output " + name, x, dist);
    }

    private static void every(String name, int length, int lo, int hi, int[] p, int[] q, int dist) {
        flow(name, length, lo, hi, p, q, dist);
        anti(name, length, lo, hi, p, q, dist);
        output(name, length, lo, hi, p, q, dist);
    }

    private static void analyzesNothing() {
        LoopFuser x = new LoopFuser(3, 5);
        x.setTemp(0, true);
        x.setInit(1, 1, 8);
        Map<String, Integer> before = Check.state(x);
        Check.equal("analyze without loops", x.analyze(), 0);
        Check.changed("analyze without loops", before, x, "query 2: 1");
    }

    private static void changesOnlyTheAnalysis() {
        LoopFuser x = Programs.built();
        Map<String, Integer> before = Check.state(x);
        Check.equal("analyze", x.analyze(), 1);
        Check.changed("analyze", before, x,
                "query 2: 1", "query 3: 1", "query 4: 1", "array 2 1: 1",
                "loop 0 4: 0", "loop 0 5: 0", "loop 1 4: 0", "loop 1 5: 1", "loop 1 6: 0");
    }

    private static void isRefusedTheSecondTime() {
        for (LoopFuser x : new LoopFuser[] {Programs.analyzed(), Programs.ran()}) {
            Map<String, Integer> before = Check.state(x);
            Check.equal("second analyze", x.analyze(), -1);
            Check.unchanged("second analyze", before, x);
        }
        LoopFuser empty = new LoopFuser(2, 4);
        empty.analyze();
        Check.equal("second analyze without loops", empty.analyze(), -1);
    }

    private static void findsFlowAntiAndOutputDistances() {
        every("same cell", 16, 0, 7, ref(B, 1, 0), ref(B, 1, 0), 0);
        every("one later", 16, 0, 7, ref(B, 1, 0), ref(B, 1, -1), 1);
        every("one earlier", 16, 0, 7, ref(B, 1, 0), ref(B, 1, 1), -1);
        every("seven later", 16, 0, 7, ref(B, 1, 7), ref(B, 1, 0), 7);
        every("seven earlier", 16, 0, 7, ref(B, 1, 0), ref(B, 1, 7), -7);
        every("eight apart", 16, 0, 7, ref(B, 1, 0), ref(B, 1, 8), NONE);
        every("fifteen later", 16, 0, 15, ref(B, -1, 15), ref(B, 0, 15), 0);
        every("fifteen earlier", 16, 0, 15, ref(B, 1, 0), ref(B, 0, 15), -15);
        every("other array", 16, 0, 7, ref(B, 1, 0), ref(D, 1, 1), NONE);
        LoopFuser x = new LoopFuser(6, 16);
        Programs.copyLoop(x, 0, 7, ref(C, 1, 0), ref(B, 1, 0));
        Programs.copyLoop(x, 0, 7, ref(D, 1, 0), ref(B, 1, 1));
        expectSecond("two reads", x, NONE);
    }

    private static void findsDistancesOfOtherCoefs() {
        every("one cell", 16, 0, 7, ref(B, 0, 3), ref(B, 0, 3), -7);
        every("one cell, one iteration", 16, 5, 5, ref(B, 0, 3), ref(B, 0, 3), 0);
        every("two cells", 16, 0, 7, ref(B, 0, 3), ref(B, 0, 4), NONE);
        every("backwards", 16, 0, 7, ref(B, 1, 0), ref(B, -1, 7), -7);
        every("doubled first", 16, 0, 7, ref(B, 2, 0), ref(B, 1, 0), 0);
        every("doubled second", 16, 0, 7, ref(B, 1, 0), ref(B, 2, 0), -3);
        every("odd and even", 16, 0, 7, ref(B, 2, 0), ref(B, 2, 1), NONE);
        every("twice down", 16, 0, 7, ref(B, -2, 14), ref(B, -2, 16), 1);
        every("twice down, twice up", 16, 0, 7, ref(B, -2, 14), ref(B, 2, 0), -7);
        every("high bounds", 16, 12, 15, ref(B, 1, -12), ref(B, 1, -16), NONE);
        every("high bounds that meet", 16, 12, 15, ref(B, 1, -12), ref(B, 1, -15), 3);
    }

    private static void leavesOutCellsOutOfRange() {
        every("above", 16, 0, 15, ref(B, 0, 16), ref(B, 0, 16), NONE);
        every("below", 16, 0, 15, ref(B, 0, -1), ref(B, 0, -1), NONE);
        every("first cell", 16, 0, 15, ref(B, 0, 0), ref(B, 0, 0), -15);
        every("last cell", 16, 0, 15, ref(B, 0, 15), ref(B, 0, 15), -15);
        every("last cell of four", 4, 0, 7, ref(B, 0, 3), ref(B, 0, 3), -7);
        every("above four", 4, 0, 7, ref(B, 0, 4), ref(B, 0, 4), NONE);
        every("backwards in four", 4, 0, 7, ref(B, 1, 0), ref(B, -1, 7), 1);
        // The next array's first cell is not this one's cell N.
        every("next array", 16, 0, 3, ref(D, 0, 16), ref(E, 0, 0), NONE);
    }

    private static void findsNoDistanceWithoutIteration() {
        every("empty", 16, 7, 0, ref(B, 1, 0), ref(B, 1, 1), NONE);
        every("just empty", 16, 1, 0, ref(B, 0, 0), ref(B, 0, 0), NONE);
    }

    private static void looksAtEveryAccess() {
        for (int which = 0; which <= 1; which++) {
            LoopFuser x = new LoopFuser(6, 16);
            Programs.fillLoop(x, 0, 7, ref(B, 1, 0));
            x.addLoop(0, 7);
            x.addStatement(LoopFuser.OP_SUB, C, 1, 0);
            x.addStatement(LoopFuser.OP_SUB, D, 1, 0);
            x.setArrayOperand(which, B, 1, 2);
            x.addStatement(LoopFuser.OP_SUB, E, 1, 0);
            expectSecond("read by operand " + which, x, -2);

            x = new LoopFuser(6, 16);
            x.addLoop(0, 7);
            x.addStatement(LoopFuser.OP_SUB, C, 1, 0);
            x.addStatement(LoopFuser.OP_SUB, D, 1, 0);
            x.setArrayOperand(which, B, 1, -2);
            x.addStatement(LoopFuser.OP_SUB, E, 1, 0);
            Programs.fillLoop(x, 0, 7, ref(B, 1, 0));
            expectSecond("read before by operand " + which, x, -2);
        }
        LoopFuser x = new LoopFuser(6, 16);
        Programs.fillLoop(x, 0, 7, ref(A, 1, 0));
        x.addLoop(0, 7);
        x.addStatement(LoopFuser.OP_ADD, B, 1, 0);
        x.setArrayOperand(0, A, 1, 1);
        x.setArrayOperand(1, A, 1, 1);
        x.setValueOperand(0, LoopFuser.OPND_CONST, 1);
        x.setValueOperand(1, LoopFuser.OPND_INDEX, 1);
        expectSecond("references replaced by values", x, NONE);
    }

    private static void looksAtNoConflictInsideALoop() {
        for (int offset = -1; offset <= 1; offset++) {
            LoopFuser x = new LoopFuser(6, 16);
            Programs.copyLoop(x, 0, 7, ref(A, 1, 0), ref(A, 1, offset));
            Programs.copyLoop(x, 0, 7, ref(B, 1, 0), ref(B, 1, offset));
            expectSecond("inside a loop " + offset, x, NONE);
        }
    }

    private static void looksAtTheWholeGroupAndNoOther() {
        LoopFuser x = new LoopFuser(6, 16);
        Programs.copyLoop(x, 0, 7, ref(B, 1, 0), ref(A, 1, 0));
        Programs.copyLoop(x, 0, 7, ref(C, 1, 0), ref(A, 1, 0));
        Programs.copyLoop(x, 0, 7, ref(D, 1, 0), ref(B, 1, 1));
        Programs.copyLoop(x, 0, 7, ref(E, 1, 0), ref(B, 1, 1));
        Programs.copyLoop(x, 0, 7, ref(5, 1, 0), ref(D, 1, 2));
        Check.equal("whole group: groups", x.analyze(), 3);
        expectLoop("whole group", x, 0, 0, LoopFuser.J_FIRST, NONE);
        expectLoop("whole group", x, 1, 0, LoopFuser.J_FUSED, NONE);
        expectLoop("whole group", x, 2, 1, LoopFuser.J_DEPENDENCE, -1);
        expectLoop("whole group", x, 3, 1, LoopFuser.J_FUSED, NONE);
        expectLoop("whole group", x, 4, 2, LoopFuser.J_DEPENDENCE, -2);
    }

    private static void takesTheLeastOfAll() {
        LoopFuser x = new LoopFuser(6, 16);
        Programs.fillLoop(x, 0, 7, ref(B, 1, 0));
        Programs.fillLoop(x, 0, 7, ref(C, 1, 0));
        x.addLoop(0, 7);
        x.addStatement(LoopFuser.OP_ADD, D, 1, 0);
        x.setArrayOperand(0, B, 1, -3);
        x.setArrayOperand(1, C, 1, -2);
        x.addStatement(LoopFuser.OP_ADD, E, 1, 0);
        x.setArrayOperand(0, C, 1, -5);
        x.addLoop(0, 7);
        x.addStatement(LoopFuser.OP_ADD, A, 1, 0);
        x.setArrayOperand(0, D, 1, -4);
        x.setArrayOperand(1, B, 1, 3);
        Check.equal("least: groups", x.analyze(), 2);
        expectLoop("least", x, 1, 0, LoopFuser.J_FUSED, NONE);
        expectLoop("least", x, 2, 0, LoopFuser.J_FUSED, 2);
        expectLoop("least", x, 3, 1, LoopFuser.J_DEPENDENCE, -3);
    }

    private static void testsBoundsFirst() {
        LoopFuser x = new LoopFuser(6, 16);
        int[][] bounds = {{0, 7}, {0, 6}, {1, 6}, {0, 7}, {0, 7}, {7, 0}, {7, 0}, {8, 0}};
        for (int[] b : bounds) {
            Programs.copyLoop(x, b[0], b[1], ref(B, 1, 0), ref(C, 1, 0));
        }
        Check.equal("bounds: groups", x.analyze(), 6);
        expectLoop("bounds", x, 0, 0, LoopFuser.J_FIRST, NONE);
        expectLoop("bounds", x, 1, 1, LoopFuser.J_BOUNDS, NONE);
        expectLoop("bounds", x, 2, 2, LoopFuser.J_BOUNDS, NONE);
        expectLoop("bounds", x, 3, 3, LoopFuser.J_BOUNDS, NONE);
        expectLoop("bounds", x, 4, 3, LoopFuser.J_FUSED, 0);
        expectLoop("bounds", x, 5, 4, LoopFuser.J_BOUNDS, NONE);
        expectLoop("bounds", x, 6, 4, LoopFuser.J_FUSED, NONE);
        expectLoop("bounds", x, 7, 5, LoopFuser.J_BOUNDS, NONE);
    }

    private static void loopsWithoutStatementsFuse() {
        LoopFuser x = new LoopFuser(6, 16);
        x.addLoop(0, 7);
        x.addLoop(0, 7);
        Programs.fillLoop(x, 0, 7, ref(B, 1, 0));
        x.addLoop(0, 7);
        Programs.copyLoop(x, 0, 7, ref(C, 1, 0), ref(B, 1, 1));
        x.addLoop(0, 7);
        Check.equal("no statements: groups", x.analyze(), 2);
        expectLoop("no statements", x, 0, 0, LoopFuser.J_FIRST, NONE);
        expectLoop("no statements", x, 1, 0, LoopFuser.J_FUSED, NONE);
        expectLoop("no statements", x, 2, 0, LoopFuser.J_FUSED, NONE);
        expectLoop("no statements", x, 3, 0, LoopFuser.J_FUSED, NONE);
        expectLoop("no statements", x, 4, 1, LoopFuser.J_DEPENDENCE, -1);
        expectLoop("no statements", x, 5, 1, LoopFuser.J_FUSED, NONE);
    }

    private static void fusesEightLoops() {
        LoopFuser x = new LoopFuser(2, 4);
        LoopFuser y = new LoopFuser(2, 4);
        for (int loop = 0; loop < 8; loop++) {
            Programs.copyLoop(x, 0, 3, ref(A, 1, 0), ref(B, 1, 0));
            Programs.copyLoop(y, 0, 3, ref(A, 0, 0), ref(B, 1, 0));
        }
        Check.equal("eight in one group", x.analyze(), 1);
        expectLoop("eight in one group", x, 7, 0, LoopFuser.J_FUSED, 0);
        Check.equal("eight groups", y.analyze(), 8);
        expectLoop("eight groups", y, 7, 7, LoopFuser.J_DEPENDENCE, -3);
    }
}
