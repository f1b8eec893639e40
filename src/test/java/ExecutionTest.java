/** The section "Execution". */
public final class ExecutionTest {
    public static void main(String[] args) {
        Check.sentence("an array reference gives M[R][c*i+o] if that cell is in range, else 0",
                ExecutionTest::readsZeroOutOfRange);
        Check.sentence("evaluate operand 0, then operand 1", ExecutionTest::keepsOperandsApart);
        Check.sentence("compute op, wrapping as Java int", ExecutionTest::wrapsOnTheWay);
        Check.sentence("if the destination cell is in range, M[D][cd*i+od] := result",
                ExecutionTest::writesAtBothEnds);
        Check.sentence("else the result is dropped", ExecutionTest::dropsWritesOutOfRange);
        Check.sentence("**Original program**: loops in order", ExecutionTest::loopsInOrder);
        Check.sentence("in a loop, i from lo to hi ascending", ExecutionTest::goesUpwards);
        Check.sentence("in an iteration, the loop's statements in order",
                ExecutionTest::statementsInOrder);
        Check.end();
    }

    private static void expect(String name, LoopFuser x, int array, int... due) {
        for (int index = 0; index < due.length; index++) {
            Check.equal(name + ": original " + index, x.getOriginal(array, index), due[index]);
            Check.equal(name + ": fused " + index, x.getFused(array, index), due[index]);
        }
    }

    private static void analyzeAndRun(String name, LoopFuser x) {
        x.analyze();
        Check.equal(name + ": run", x.run(), 0);
    }

    private static LoopFuser filled(int arrays, int length) {
        LoopFuser x = new LoopFuser(arrays, length);
        Programs.fillInit(x);
        return x;
    }

    private static void readsZeroOutOfRange() {
        LoopFuser x = filled(3, 4);
        x.addLoop(0, 3);
        x.addStatement(LoopFuser.OP_ADD, 0, 1, 0);
        x.setArrayOperand(0, 1, 2, -1);
        x.setArrayOperand(1, 2, -1, 4);
        analyzeAndRun("reads out of range", x);
        expect("reads out of range", x, 0, 0, 201 + 303, 203 + 302, 301);
        expect("the array read", x, 1, 200, 201, 202, 203);
        // A product shows a 0 that a sum would hide.
        for (int which = 0; which <= 1; which++) {
            LoopFuser y = filled(3, 4);
            y.addLoop(0, 15);
            y.addStatement(LoopFuser.OP_MUL, 0, 1, -10);
            y.setArrayOperand(which, 1, 1, -11);
            y.setValueOperand(1 - which, LoopFuser.OPND_CONST, 3);
            analyzeAndRun("product", y);
            expect("product", y, 0, 0, 600, 603, 606);
        }
    }

    private static void keepsOperandsApart() {
        LoopFuser x = filled(3, 4);
        x.addLoop(0, 3);
        x.addStatement(LoopFuser.OP_SUB, 0, 1, 0);
        x.setArrayOperand(0, 2, 1, 0);
        x.setArrayOperand(1, 1, 1, 1);
        analyzeAndRun("difference", x);
        expect("difference", x, 0, 300 - 201, 301 - 202, 302 - 203, 303);
    }

    private static void wrapsOnTheWay() {
        LoopFuser x = new LoopFuser(2, 16);
        x.setInit(0, 0, 3);
        x.addLoop(1, 15);
        x.addStatement(LoopFuser.OP_MUL, 0, 1, 0);
        x.setArrayOperand(0, 0, 1, -1);
        x.setArrayOperand(1, 0, 1, -1);
        x.addStatement(LoopFuser.OP_ADD, 1, 1, 0);
        x.setArrayOperand(0, 1, 1, -1);
        x.setValueOperand(1, LoopFuser.OPND_CONST, Integer.MAX_VALUE);
        analyzeAndRun("squares and sums", x);
        int[] squares = new int[16];
        int[] sums = new int[16];
        squares[0] = 3;
        for (int n = 1; n < 16; n++) {
            squares[n] = (int) ((long) squares[n - 1] * squares[n - 1]);
            sums[n] = (int) ((long) n * Integer.MAX_VALUE);
        }
        expect("squares", x, 0, squares);
        expect("sums", x, 1, sums);
    }

    private static void writesAtBothEnds() {
        for (int length = 4; length <= 16; length++) {
            LoopFuser x = filled(3, length);
            x.addLoop(0, 0);
            x.addStatement(LoopFuser.OP_ADD, 1, 1, 0);
            x.setValueOperand(0, LoopFuser.OPND_CONST, -7);
            x.addStatement(LoopFuser.OP_ADD, 1, 1, length - 1);
            x.setValueOperand(0, LoopFuser.OPND_CONST, -9);
            analyzeAndRun("both ends", x);
            for (int index = 1; index < length - 1; index++) {
                Check.equal("between", x.getOriginal(1, index), 200 + index);
                Check.equal("between, fused", x.getFused(1, index), 200 + index);
            }
            expect("both ends", x, 1, -7);
            Check.equal("last", x.getOriginal(1, length - 1), -9);
            Check.equal("last, fused", x.getFused(1, length - 1), -9);
        }
    }

    private static void dropsWritesOutOfRange() {
        LoopFuser x = filled(3, 4);
        x.addLoop(0, 15);
        x.addStatement(LoopFuser.OP_ADD, 1, 2, -7);
        x.setValueOperand(0, LoopFuser.OPND_INDEX, 0);
        x.addStatement(LoopFuser.OP_ADD, 1, 0, 4);
        x.addStatement(LoopFuser.OP_ADD, 1, 0, -1);
        analyzeAndRun("writes out of range", x);
        expect("writes out of range", x, 0, 100, 101, 102, 103);
        expect("writes out of range", x, 1, 200, 4, 202, 5);
        expect("writes out of range", x, 2, 300, 301, 302, 303);
        for (int length = 4; length <= 16; length++) {
            for (int offset = -16; offset <= 16; offset++) {
                if (offset < 0 || offset >= length) {
                    dropped(length, offset);
                }
            }
        }
    }

    private static void dropped(int length, int offset) {
        LoopFuser x = filled(6, length);
        x.addLoop(0, 0);
        x.addStatement(LoopFuser.OP_ADD, 3, 2, offset);
        x.setValueOperand(0, LoopFuser.OPND_CONST, -7);
        // A result kept behind the array would come back by the same reference.
        x.addStatement(LoopFuser.OP_ADD, 0, 0, 0);
        x.setArrayOperand(0, 3, 2, offset);
        x.setValueOperand(1, LoopFuser.OPND_CONST, 100);
        x.addLoop(0, 0);
        x.addStatement(LoopFuser.OP_SUB, 5, 0, 1);
        x.setValueOperand(0, LoopFuser.OPND_CONST, 601);
        x.setArrayOperand(1, 3, -1, offset);
        analyzeAndRun("dropped", x);
        for (int array = 0; array < 6; array++) {
            for (int index = 0; index < length; index++) {
                int due = 100 * (array + 1) + index;
                Check.equal("dropped at " + offset, x.getOriginal(array, index), due);
                Check.equal("dropped at " + offset + ", fused", x.getFused(array, index), due);
            }
        }
    }

    private static void loopsInOrder() {
        // Different bounds, equal bounds that fuse, equal bounds that may not.
        int[][] bounds = {{0, 2}, {0, 3}, {0, 3}};
        LoopFuser x = new LoopFuser(3, 4);
        for (int[] b : bounds) {
            x.addLoop(b[0], b[1]);
            x.addStatement(LoopFuser.OP_MUL, 0, 1, 0);
            x.setArrayOperand(0, 0, 1, 0);
            x.setValueOperand(1, LoopFuser.OPND_CONST, 10);
            x.addStatement(LoopFuser.OP_ADD, 0, 1, 0);
            x.setArrayOperand(0, 0, 1, 0);
            x.setValueOperand(1, LoopFuser.OPND_CONST, x.query(LoopFuser.Q_LOOPS));
        }
        Programs.copyLoop(x, 0, 3, Programs.ref(1, 1, 0), Programs.ref(0, 1, 1));
        analyzeAndRun("order of loops", x);
        Check.equal("order of loops: groups", x.query(LoopFuser.Q_GROUPS), 3);
        expect("order of loops", x, 0, 123, 123, 123, 23);
        expect("order of loops", x, 1, 123, 123, 23, 0);
    }

    private static void goesUpwards() {
        LoopFuser x = new LoopFuser(2, 5);
        x.setInit(0, 0, 1);
        x.addLoop(1, 4);
        x.addStatement(LoopFuser.OP_MUL, 0, 1, 0);
        x.setArrayOperand(0, 0, 1, -1);
        x.setValueOperand(1, LoopFuser.OPND_INDEX, 0);
        x.addStatement(LoopFuser.OP_ADD, 1, 0, 0);
        x.setValueOperand(0, LoopFuser.OPND_INDEX, 0);
        analyzeAndRun("factorials", x);
        expect("factorials", x, 0, 1, 1, 2, 6, 24);
        expect("last iteration", x, 1, 4, 0, 0, 0, 0);
    }

    private static void statementsInOrder() {
        LoopFuser x = new LoopFuser(4, 4);
        x.addLoop(0, 2);
        x.addStatement(LoopFuser.OP_ADD, 0, 1, 0);
        x.setValueOperand(0, LoopFuser.OPND_INDEX, 1);
        x.addStatement(LoopFuser.OP_MUL, 0, 1, 0);
        x.setArrayOperand(0, 0, 1, 0);
        x.setArrayOperand(1, 0, 1, 0);
        x.addLoop(0, 2);
        x.addStatement(LoopFuser.OP_SUB, 1, 1, 1);
        x.setArrayOperand(0, 0, 1, 0);
        x.setArrayOperand(1, 1, 1, 0);
        analyzeAndRun("order", x);
        Check.equal("order: groups", x.query(LoopFuser.Q_GROUPS), 1);
        expect("order", x, 0, 1, 4, 9, 0);
        expect("order", x, 1, 0, 1, 3, 6);
        // All twelve statements, each leaving its trace in one cell.
        LoopFuser y = new LoopFuser(2, 4);
        y.addLoop(0, 0);
        int due = 0;
        for (int stmt = 0; stmt < 12; stmt++) {
            boolean isSum = stmt % 2 == 0;
            y.addStatement(isSum ? LoopFuser.OP_ADD : LoopFuser.OP_MUL, 0, 1, 3);
            y.setArrayOperand(0, 0, 1, 3);
            y.setValueOperand(1, LoopFuser.OPND_CONST, stmt + 2);
            due = isSum ? due + stmt + 2 : due * (stmt + 2);
        }
        analyzeAndRun("twelve statements", y);
        expect("twelve statements", y, 0, 0, 0, 0, due);
    }
}
