/** Promise 8: which arrays are contracted; promise 9: what a run leaves of them. */
public final class ContractionTest {
    private static final int B = 1;
    private static final int C = 2;
    private static final int D = 3;

    public static void main(String[] args) {
        contractsWhereAllHolds();
        needsTemp();
        needsAnAccess();
        needsOneGroup();
        needsTwoLoops();
        needsEqualReferences();
        needsCoefNotZero();
        needsEveryCellInRange();
        needsAWriteFirst();
        countsSeveral();
        keepsInitInFused();
        Check.end();
    }

    private static int[] ref(int array, int coef, int offset) {
        return Programs.ref(array, coef, offset);
    }

    private static LoopFuser withTemp() {
        LoopFuser x = new LoopFuser(6, 8);
        x.setTemp(B, true);
        return x;
    }

    private static void expect(String name, LoopFuser x, int groups, boolean contracted) {
        for (int array = 0; array < 6; array++) {
            for (int index = 0; index < 8; index++) {
                x.setInit(array, index, 1000 * array + 7 * index + 1);
            }
        }
        Check.equal(name + ": groups", x.analyze(), groups);
        int flag = contracted ? 1 : 0;
        Check.equal(name + ": contracted", x.arrayInfo(B, LoopFuser.A_CONTRACTED), flag);
        Check.equal(name + ": Q_CONTRACTED", x.query(LoopFuser.Q_CONTRACTED), flag);
        Check.equal(name + ": temp", x.arrayInfo(C, LoopFuser.A_CONTRACTED), 0);
        Check.equal(name + ": run", x.run(), 0);
        for (int index = 0; index < 8; index++) {
            int due = contracted ? x.getInit(B, index) : x.getOriginal(B, index);
            Check.equal(name + ": fused " + index, x.getFused(B, index), due);
        }
    }

    private static void writeThenRead(String name, int lo, int hi, int[] p, int[] q, boolean due) {
        LoopFuser x = withTemp();
        Programs.fillLoop(x, lo, hi, p);
        Programs.copyLoop(x, lo, hi, ref(C, 1, 0), q);
        expect(name, x, 1, due);
    }

    private static void contractsWhereAllHolds() {
        writeThenRead("plain", 0, 7, ref(B, 1, 0), ref(B, 1, 0), true);
        writeThenRead("downwards", 0, 7, ref(B, -1, 7), ref(B, -1, 7), true);
        writeThenRead("every second", 0, 3, ref(B, 2, 1), ref(B, 2, 1), true);
        writeThenRead("every second down", 4, 7, ref(B, -2, 14), ref(B, -2, 14), true);
        writeThenRead("one iteration", 5, 5, ref(B, 1, 2), ref(B, 1, 2), true);

        LoopFuser x = withTemp();
        Programs.fillLoop(x, 0, 7, ref(B, 1, 0));
        x.addLoop(0, 7);
        expect("never read", x, 1, true);

        x = withTemp();
        x.addLoop(0, 7);
        x.addStatement(LoopFuser.OP_ADD, B, 1, 0);
        Programs.copy(x, ref(C, 1, 0), ref(B, 1, 0));
        Programs.fillLoop(x, 0, 7, ref(D, 1, 0));
        expect("all in one loop of two", x, 1, true);

        x = withTemp();
        Programs.fillLoop(x, 0, 7, ref(B, 1, 0));
        x.addLoop(0, 7);
        Programs.copy(x, ref(B, 1, 0), ref(B, 1, 0));
        Programs.copy(x, ref(C, 1, 0), ref(B, 1, 0));
        x.setArrayOperand(1, B, 1, 0);
        expect("written twice", x, 1, true);

        x = withTemp();
        Programs.fillLoop(x, 2, 3, ref(D, 1, 0));
        Programs.fillLoop(x, 0, 7, ref(B, 1, 0));
        Programs.copyLoop(x, 0, 7, ref(C, 1, 0), ref(B, 1, 0));
        Programs.fillLoop(x, 2, 3, ref(D, 1, 0));
        expect("in the middle group", x, 3, true);
    }

    private static void needsTemp() {
        LoopFuser x = withTemp();
        x.setTemp(B, false);
        Programs.fillLoop(x, 0, 7, ref(B, 1, 0));
        Programs.copyLoop(x, 0, 7, ref(C, 1, 0), ref(B, 1, 0));
        expect("not temp", x, 1, false);
    }

    private static void needsAnAccess() {
        LoopFuser x = withTemp();
        Programs.fillLoop(x, 0, 7, ref(C, 1, 0));
        Programs.copyLoop(x, 0, 7, ref(D, 1, 0), ref(C, 1, 0));
        expect("no access", x, 1, false);
    }

    private static void needsOneGroup() {
        LoopFuser x = withTemp();
        Programs.fillLoop(x, 0, 7, ref(B, 1, 0));
        Programs.copyLoop(x, 0, 7, ref(C, 1, 0), ref(B, 1, 0));
        Programs.copyLoop(x, 0, 6, ref(D, 1, 0), ref(B, 1, 0));
        expect("read in a later group", x, 2, false);

        x = withTemp();
        Programs.fillLoop(x, 0, 6, ref(B, 1, 0));
        Programs.fillLoop(x, 0, 7, ref(B, 1, 0));
        Programs.copyLoop(x, 0, 7, ref(C, 1, 0), ref(B, 1, 0));
        expect("written in an earlier group", x, 2, false);

        x = withTemp();
        Programs.fillLoop(x, 0, 7, ref(B, 1, 0));
        Programs.copyLoop(x, 0, 7, ref(C, 1, 0), ref(B, 1, 0));
        Programs.copyLoop(x, 7, 0, ref(D, 1, 0), ref(B, 1, 0));
        expect("read in a later group that runs no iteration", x, 2, false);
    }

    private static void needsTwoLoops() {
        LoopFuser x = withTemp();
        x.addLoop(0, 7);
        x.addStatement(LoopFuser.OP_ADD, B, 1, 0);
        Programs.copy(x, ref(C, 1, 0), ref(B, 1, 0));
        expect("only one loop", x, 1, false);

        x = withTemp();
        Programs.fillLoop(x, 0, 3, ref(D, 1, 0));
        Programs.fillLoop(x, 0, 3, ref(D, 1, 0));
        x.addLoop(0, 7);
        x.addStatement(LoopFuser.OP_ADD, B, 1, 0);
        Programs.copy(x, ref(C, 1, 0), ref(B, 1, 0));
        Programs.fillLoop(x, 0, 3, ref(D, 1, 0));
        Programs.fillLoop(x, 0, 3, ref(D, 1, 0));
        expect("one loop between groups of two", x, 3, false);
    }

    private static void needsEqualReferences() {
        writeThenRead("other offset", 1, 6, ref(B, 1, 0), ref(B, 1, -1), false);
        writeThenRead("other coef", 0, 3, ref(B, 2, 0), ref(B, 1, 0), false);
        writeThenRead("other coef, no iteration", 3, 0, ref(B, 2, 0), ref(B, 1, 0), false);
        writeThenRead("other offset, no iteration", 3, 0, ref(B, 1, 1), ref(B, 1, 0), false);

        LoopFuser x = withTemp();
        Programs.fillLoop(x, 1, 6, ref(B, 1, 0));
        Programs.copyLoop(x, 1, 6, ref(C, 1, 0), ref(B, 1, 0));
        x.setArrayOperand(1, B, 1, -1);
        expect("other offset of the last operand", x, 1, false);
    }

    private static void needsCoefNotZero() {
        writeThenRead("coef 0", 3, 3, ref(B, 0, 3), ref(B, 0, 3), false);
        writeThenRead("coef 0, no iteration", 3, 0, ref(B, 0, 3), ref(B, 0, 3), false);
    }

    private static void needsEveryCellInRange() {
        writeThenRead("up to the last cell", 0, 6, ref(B, 1, 1), ref(B, 1, 1), true);
        writeThenRead("beyond the last cell", 0, 7, ref(B, 1, 1), ref(B, 1, 1), false);
        writeThenRead("from the first cell", 1, 7, ref(B, 1, -1), ref(B, 1, -1), true);
        writeThenRead("before the first cell", 0, 7, ref(B, 1, -1), ref(B, 1, -1), false);
        writeThenRead("down below the first cell", 0, 7, ref(B, -1, 6), ref(B, -1, 6), false);
        writeThenRead("no iteration", 7, 0, ref(B, 2, 16), ref(B, 2, 16), true);
        writeThenRead("no iteration, below", 1, 0, ref(B, -2, -16), ref(B, -2, -16), true);
    }

    private static void needsAWriteFirst() {
        LoopFuser x = withTemp();
        Programs.copyLoop(x, 0, 7, ref(C, 1, 0), ref(B, 1, 0));
        Programs.fillLoop(x, 0, 7, ref(B, 1, 0));
        expect("read first", x, 1, false);

        for (int which = 0; which <= 1; which++) {
            x = withTemp();
            x.addLoop(0, 7);
            x.addStatement(LoopFuser.OP_ADD, B, 1, 0);
            x.setValueOperand(1 - which, LoopFuser.OPND_CONST, 1);
            x.setArrayOperand(which, B, 1, 0);
            Programs.copyLoop(x, 0, 7, ref(C, 1, 0), ref(B, 1, 0));
            expect("read by the first write's operand " + which, x, 1, false);
        }

        x = withTemp();
        Programs.copyLoop(x, 0, 7, ref(C, 1, 0), ref(B, 1, 0));
        x.addLoop(0, 7);
        expect("only read", x, 1, false);
    }

    private static void countsSeveral() {
        LoopFuser x = new LoopFuser(6, 8);
        for (int array = 0; array < 5; array++) {
            x.setTemp(array, true);
        }
        Programs.fillLoop(x, 0, 7, ref(0, 1, 0));
        Programs.copyLoop(x, 0, 7, ref(1, 1, 0), ref(0, 1, 0));
        Programs.copyLoop(x, 0, 7, ref(5, 1, 0), ref(1, 1, 0));
        Programs.fillLoop(x, 0, 3, ref(2, 2, 0));
        Programs.copyLoop(x, 0, 3, ref(5, 2, 1), ref(2, 2, 0));
        Programs.copyLoop(x, 0, 3, ref(5, 2, 0), ref(3, 2, 0));
        Check.equal("several: groups", x.analyze(), 2);
        int[] due = {1, 1, 1, 0, 0, 0};
        for (int array = 0; array < 6; array++) {
            Check.equal("several: " + array, x.arrayInfo(array, LoopFuser.A_CONTRACTED), due[array]);
        }
        Check.equal("several: Q_CONTRACTED", x.query(LoopFuser.Q_CONTRACTED), 3);
        Check.equal("several: run", x.run(), 0);
        int[] cells = {0, 1, 0, 2, 0, 3, 0, 4};
        for (int index = 0; index < 8; index++) {
            Check.equal("several: original", x.getOriginal(5, index), cells[index]);
            Check.equal("several: fused", x.getFused(5, index), cells[index]);
        }
    }

    private static void keepsInitInFused() {
        LoopFuser x = Programs.ran();
        int[] original = {0, 5, 16, 27, 8, 0, 0, 0};
        int[] fused = {0, 77, 0, 0, 0, 0, 0, 0};
        int[] results = {0, 0, 0, 0, 24, 81, 48, 15};
        for (int index = 0; index < 8; index++) {
            Check.equal("contracted, original " + index, x.getOriginal(2, index), original[index]);
            Check.equal("contracted, fused " + index, x.getFused(2, index), fused[index]);
            Check.equal("result, original " + index, x.getOriginal(1, index), results[index]);
            Check.equal("result, fused " + index, x.getFused(1, index), results[index]);
        }
    }
}
