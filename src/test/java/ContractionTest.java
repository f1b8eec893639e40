/** The section "Analysis" as to contraction, and the transformed program. */
public final class ContractionTest {
    private static final int A = 0;
    private static final int B = 1;
    private static final int C = 2;
    private static final int D = 3;

    public static void main(String[] args) {
        conditions();
        transformedProgram();
        Check.end();
    }

    private static void conditions() {
        Check.sentence("for every array x, CONTRACTED(x) becomes true exactly when all of these hold",
                ContractionTest::contractsWhereAllHolds);
        Check.sentence("for every array x", ContractionTest::contractsEveryArray);
        Check.sentence("TEMP(x)", ContractionTest::needsTemp);
        Check.sentence("x has at least one access", ContractionTest::needsAnAccess);
        Check.sentence("every statement with an access of x belongs to a loop of one same group",
                ContractionTest::needsOneGroup);
        Check.sentence("that group holds 2 or more loops", ContractionTest::needsTwoLoops);
        Check.sentence("all accesses of x have the same coef", ContractionTest::needsEqualCoefs);
        Check.sentence("and the same offset", ContractionTest::needsEqualOffsets);
        Check.sentence("and that coef is not 0", ContractionTest::needsCoefNotZero);
        Check.sentence("for every i with lo <= i <= hi of that group, coef*i+offset is in range",
                ContractionTest::needsEveryCellInRange);
        Check.sentence("the first access of x in the group's body order is a write",
                ContractionTest::needsAWriteFirst);
        Check.sentence("Body order: the group's loops in order, each loop's statements in order, each "
                + "statement's accesses in its order", ContractionTest::bodyOrder);
    }

    private static void transformedProgram() {
        Check.sentence("i from lo to hi ascending; in an iteration, the group's loops in order and "
                + "each loop's statements in order", ContractionTest::runsGroupsInOrder);
        Check.sentence("a read of x gives s(x) and a write of x sets s(x) := result",
                ContractionTest::readsAndWritesScalars);
        Check.sentence("no cell of x is read or written, so FUSED[x] keeps the INIT contents",
                ContractionTest::keepsInitInFused);
    }

    private static int[] ref(int array, int coef, int offset) {
        return Programs.ref(array, coef, offset);
    }

    private static LoopFuser withTemp() {
        LoopFuser x = new LoopFuser(6, 8);
        x.setTemp(B, true);
        return x;
    }

    private static void expect(String name, LoopFuser x, int groups, boolean contracted) {
        for (int array = 0; array < 6; array++) {
            for (int index = 0; index < 8; index++) {
                x.setInit(array, index, 1000 * array + 7 * index + 1);
            }
        }
        Check.equal(name + ": groups", x.analyze(), groups);
        int flag = contracted ? 1 : 0;
        Check.equal(name + ": contracted", x.arrayInfo(B, LoopFuser.A_CONTRACTED), flag);
        Check.equal(name + ": Q_CONTRACTED", x.query(LoopFuser.Q_CONTRACTED), flag);
        Check.equal(name + ": temp", x.arrayInfo(C, LoopFuser.A_CONTRACTED), 0);
        Check.equal(name + ": run", x.run(), 0);
        for (int index = 0; index < 8; index++) {
            int due = contracted ? x.getInit(B, index) : x.getOriginal(B, index);
            Check.equal(name + ": fused " + index, x.getFused(B, index), due);
        }
    }

    private static void writeThenRead(String name, int lo, int hi, int[] p, int[] q, boolean due) {
        LoopFuser x = withTemp();
        Programs.fillLoop(x, lo, hi, p);
        Programs.copyLoop(x, lo, hi, ref(C, 1, 0), q);
        expect(name, x, 1, due);
    }

    private static void contractsWhereAllHolds() {
        writeThenRead("plain", 0, 7, ref(B, 1, 0), ref(B, 1, 0), true);
        writeThenRead("downwards", 0, 7, ref(B, -1, 7), ref(B, -1, 7), true);
        writeThenRead("every second", 0, 3, ref(B, 2, 1), ref(B, 2, 1), true);
        writeThenRead("every second down", 4, 7, ref(B, -2, 14), ref(B, -2, 14), true);
        writeThenRead("one iteration", 5, 5, ref(B, 1, 2), ref(B, 1, 2), true);

        LoopFuser x = withTemp();
        Programs.fillLoop(x, 0, 7, ref(B, 1, 0));
        x.addLoop(0, 7);
        expect("never read", x, 1, true);

        x = withTemp();
        x.addLoop(0, 7);
        x.addStatement(LoopFuser.OP_ADD, B, 1, 0);
        Programs.copy(x, ref(C, 1, 0), ref(B, 1, 0));
        Programs.fillLoop(x, 0, 7, ref(D, 1, 0));
        expect("all in one loop of two", x, 1, true);

        x = withTemp();
        Programs.fillLoop(x, 0, 7, ref(B, 1, 0));
        x.addLoop(0, 7);
        Programs.copy(x, ref(B, 1, 0), ref(B, 1, 0));
        Programs.copy(x, ref(C, 1, 0), ref(B, 1, 0));
        x.setArrayOperand(1, B, 1, 0);
        expect("written twice", x, 1, true);

        x = withTemp();
        Programs.fillLoop(x, 2, 3, ref(D, 1, 0));
        Programs.fillLoop(x, 0, 7, ref(B, 1, 0));
        Programs.copyLoop(x, 0, 7, ref(C, 1, 0), ref(B, 1, 0));
        Programs.fillLoop(x, 2, 3, ref(D, 1, 0));
        expect("in the middle group", x, 3, true);
        looksAtTheLastOfTwelve();
    }

    /** Twelve statements in eight loops; the first writes B[i], the last reads the reference. */
    private static LoopFuser twelveStatements(int which, int[] last) {
        LoopFuser x = withTemp();
        for (int stmt = 0; stmt < 12; stmt++) {
            if (stmt < 8) {
                x.addLoop(1, 6);
            }
            x.addStatement(LoopFuser.OP_ADD, stmt == 0 ? B : C, 1, 0);
            x.setValueOperand(0, LoopFuser.OPND_INDEX, stmt);
        }
        x.setArrayOperand(which, last[0], last[1], last[2]);
        return x;
    }

    private static void looksAtTheLastOfTwelve() {
        for (int which = 0; which <= 1; which++) {
            expect("last of twelve", twelveStatements(which, ref(B, 1, 0)), 1, true);
            expect("last of twelve, other array", twelveStatements(which, ref(D, 2, 0)), 1, true);
            expect("last of twelve, offset", twelveStatements(which, ref(B, 1, -1)), 1, false);
        }
        LoopFuser x = twelveStatements(0, ref(B, 1, 0));
        expect("last of twelve", x, 1, true);
        for (int i = 1; i <= 6; i++) {
            Check.equal("last of twelve, original", x.getOriginal(C, i), i);
            Check.equal("last of twelve, fused", x.getFused(C, i), i);
        }
        // Written by the last alone.
        LoopFuser y = new LoopFuser(6, 8);
        y.setTemp(B, true);
        for (int stmt = 0; stmt < 12; stmt++) {
            if (stmt < 8) {
                y.addLoop(1, 6);
            }
            y.addStatement(LoopFuser.OP_ADD, stmt == 11 ? B : C, 1, 0);
        }
        expect("written by the last of twelve", y, 1, true);
    }

    private static void needsTemp() {
        LoopFuser x = withTemp();
        x.setTemp(B, false);
        Programs.fillLoop(x, 0, 7, ref(B, 1, 0));
        Programs.copyLoop(x, 0, 7, ref(C, 1, 0), ref(B, 1, 0));
        expect("not temp", x, 1, false);

        x = new LoopFuser(6, 8);
        for (int array = 0; array < 6; array++) {
            x.setTemp(array, array != B && array != C);
        }
        Programs.fillLoop(x, 0, 7, ref(B, 1, 0));
        Programs.copyLoop(x, 0, 7, ref(C, 1, 0), ref(B, 1, 0));
        expect("all others temp", x, 1, false);

        x = new LoopFuser(6, 8);
        Programs.fillLoop(x, 0, 7, ref(B, 1, 0));
        Programs.copyLoop(x, 0, 7, ref(C, 1, 0), ref(B, 1, 0));
        x.setTemp(B, true);
        expect("temp told at the end", x, 1, true);
    }

    private static void contractsEveryArray() {
        for (int arrays = 2; arrays <= 6; arrays++) {
            for (int flags = 0; flags < 1 << arrays; flags++) {
                LoopFuser x = new LoopFuser(arrays, 16);
                Programs.fillInit(x);
                for (int array = 0; array < arrays; array++) {
                    x.setTemp(array, (flags >> array & 1) == 1);
                    Programs.fillLoop(x, 0, 15, ref(array, 1, 0));
                }
                x.analyze();
                Check.equal("run", x.run(), 0);
                for (int array = 0; array < arrays; array++) {
                    int due = flags >> array & 1;
                    Check.equal("flag", x.arrayInfo(array, LoopFuser.A_CONTRACTED), due);
                    for (int i = 0; i < 16; i++) {
                        int fused = due == 1 ? 100 * (array + 1) + i : i + 1;
                        Check.equal("original", x.getOriginal(array, i), i + 1);
                        Check.equal("fused", x.getFused(array, i), fused);
                    }
                }
                Check.equal("count", x.query(LoopFuser.Q_CONTRACTED), Integer.bitCount(flags));
            }
        }
    }

    private static void needsAnAccess() {
        LoopFuser x = withTemp();
        Programs.fillLoop(x, 0, 7, ref(C, 1, 0));
        Programs.copyLoop(x, 0, 7, ref(D, 1, 0), ref(C, 1, 0));
        expect("no access", x, 1, false);

        x = withTemp();
        x.addLoop(0, 7);
        x.addLoop(0, 7);
        expect("no statement", x, 1, false);

        for (int kind = LoopFuser.OPND_CONST; kind <= LoopFuser.OPND_INDEX; kind++) {
            x = withTemp();
            Programs.fillLoop(x, 0, 7, ref(C, 1, 0));
            x.addLoop(0, 7);
            Programs.copy(x, ref(D, 1, 0), ref(B, 1, 0));
            x.setValueOperand(0, kind, B);
            expect("access replaced by a value", x, 1, false);
        }

        x = withTemp();
        x.addLoop(0, 7);
        x.addLoop(0, 7);
        x.addStatement(LoopFuser.OP_ADD, B, 1, 0);
        expect("one access", x, 1, true);
    }

    private static void needsOneGroup() {
        LoopFuser x = withTemp();
        Programs.fillLoop(x, 0, 7, ref(B, 1, 0));
        Programs.copyLoop(x, 0, 7, ref(C, 1, 0), ref(B, 1, 0));
        Programs.copyLoop(x, 0, 6, ref(D, 1, 0), ref(B, 1, 0));
        expect("read in a later group", x, 2, false);

        x = withTemp();
        Programs.fillLoop(x, 0, 6, ref(B, 1, 0));
        Programs.fillLoop(x, 0, 7, ref(B, 1, 0));
        Programs.copyLoop(x, 0, 7, ref(C, 1, 0), ref(B, 1, 0));
        expect("written in an earlier group", x, 2, false);

        x = withTemp();
        Programs.fillLoop(x, 0, 7, ref(B, 1, 0));
        Programs.copyLoop(x, 0, 7, ref(C, 1, 0), ref(B, 1, 0));
        Programs.copyLoop(x, 7, 0, ref(D, 1, 0), ref(B, 1, 0));
        expect("read in a later group that runs no iteration", x, 2, false);

        x = withTemp();
        Programs.fillLoop(x, 0, 7, ref(B, 1, 0));
        Programs.copyLoop(x, 0, 7, ref(C, 1, 0), ref(B, 1, 0));
        x.addLoop(0, 7);
        x.addStatement(LoopFuser.OP_ADD, D, 1, 0);
        x.setArrayOperand(0, C, 1, 1);
        x.setArrayOperand(1, B, 1, 0);
        expect("read in a later group with the same bounds", x, 2, false);

        x = withTemp();
        Programs.fillLoop(x, 0, 7, ref(B, 1, 0));
        Programs.copyLoop(x, 0, 7, ref(C, 1, 0), ref(B, 1, 0));
        Programs.copyLoop(x, 0, 7, ref(D, 1, 0), ref(C, 1, 1));
        expect("a later group without it", x, 2, true);
    }

    private static void needsTwoLoops() {
        for (int loops = 1; loops <= 8; loops++) {
            LoopFuser x = withTemp();
            Programs.fillLoop(x, 0, 7, ref(B, 1, 0));
            for (int loop = 1; loop < loops; loop++) {
                x.addLoop(0, 7);
            }
            expect(loops + " loops", x, 1, loops >= 2);
        }
        LoopFuser x = withTemp();
        x.addLoop(0, 7);
        x.addStatement(LoopFuser.OP_ADD, B, 1, 0);
        Programs.copy(x, ref(C, 1, 0), ref(B, 1, 0));
        expect("only one loop", x, 1, false);

        x = withTemp();
        Programs.fillLoop(x, 0, 3, ref(D, 1, 0));
        Programs.fillLoop(x, 0, 3, ref(D, 1, 0));
        x.addLoop(0, 7);
        x.addStatement(LoopFuser.OP_ADD, B, 1, 0);
        Programs.copy(x, ref(C, 1, 0), ref(B, 1, 0));
        Programs.fillLoop(x, 0, 3, ref(D, 1, 0));
        Programs.fillLoop(x, 0, 3, ref(D, 1, 0));
        expect("one loop between groups of two", x, 3, false);
    }

    private static void needsEqualCoefs() {
        writeThenRead("other coef", 0, 3, ref(B, 2, 0), ref(B, 1, 0), false);
        writeThenRead("other coef, no iteration", 3, 0, ref(B, 2, 0), ref(B, 1, 0), false);
        // With offset 0 every coef names cell 0 in the only iteration, 0.
        for (int coef = -2; coef <= 2; coef++) {
            for (int coef2 = -2; coef2 <= 2; coef2++) {
                boolean due = coef == coef2 && coef != 0;
                writeThenRead("one cell by coefs", 0, 0, ref(B, coef, 0), ref(B, coef2, 0), due);
            }
        }
    }

    private static void needsEqualOffsets() {
        writeThenRead("other offset", 1, 6, ref(B, 1, 0), ref(B, 1, -1), false);
        writeThenRead("other offset, no iteration", 3, 0, ref(B, 1, 1), ref(B, 1, 0), false);
        for (int offset = -16; offset <= 16; offset++) {
            writeThenRead("no iteration", 3, 0, ref(B, 1, 3), ref(B, 1, offset), offset == 3);
            writeThenRead("no iteration", 3, 0, ref(B, -2, 16), ref(B, -2, offset), offset == 16);
            writeThenRead("no iteration", 3, 0, ref(B, 2, -16), ref(B, 2, offset), offset == -16);
        }
        for (int which = 0; which <= 1; which++) {
            LoopFuser x = withTemp();
            Programs.fillLoop(x, 1, 6, ref(B, 1, 0));
            x.addLoop(1, 6);
            x.addStatement(LoopFuser.OP_ADD, C, 1, 0);
            x.setArrayOperand(which, B, 1, 0);
            x.setArrayOperand(1 - which, B, 1, -1);
            expect("other offset of operand " + (1 - which), x, 1, false);
        }
        LoopFuser x = withTemp();
        Programs.fillLoop(x, 1, 6, ref(B, 1, 0));
        Programs.fillLoop(x, 1, 6, ref(B, 1, -1));
        expect("other offset of a write", x, 1, false);
        x = withTemp();
        Programs.fillLoop(x, 1, 6, ref(B, 1, 0));
        Programs.copyLoop(x, 1, 6, ref(C, 1, 0), ref(B, 1, 0));
        Programs.copyLoop(x, 1, 6, ref(D, 1, 0), ref(B, 1, -1));
        expect("other offset of the last read", x, 1, false);
    }

    private static void needsCoefNotZero() {
        writeThenRead("coef 0", 3, 3, ref(B, 0, 3), ref(B, 0, 3), false);
        writeThenRead("coef 0, no iteration", 3, 0, ref(B, 0, 3), ref(B, 0, 3), false);
    }

    private static void needsEveryCellInRange() {
        writeThenRead("up to the last cell", 0, 6, ref(B, 1, 1), ref(B, 1, 1), true);
        writeThenRead("beyond the last cell", 0, 7, ref(B, 1, 1), ref(B, 1, 1), false);
        writeThenRead("from the first cell", 1, 7, ref(B, 1, -1), ref(B, 1, -1), true);
        writeThenRead("before the first cell", 0, 7, ref(B, 1, -1), ref(B, 1, -1), false);
        writeThenRead("down below the first cell", 0, 7, ref(B, -1, 6), ref(B, -1, 6), false);
        writeThenRead("no iteration", 7, 0, ref(B, 2, 16), ref(B, 2, 16), true);
        writeThenRead("no iteration, below", 1, 0, ref(B, -2, -16), ref(B, -2, -16), true);
        for (int length = 4; length <= 16; length++) {
            for (int lo = 0; lo <= 15; lo++) {
                for (int hi = 0; hi <= 15; hi++) {
                    everyReference(length, lo, hi);
                }
            }
        }
    }

    private static void everyReference(int length, int lo, int hi) {
        for (int coef = -2; coef <= 2; coef++) {
            for (int offset = -16; coef != 0 && offset <= 16; offset++) {
                LoopFuser x = new LoopFuser(2, length);
                x.setTemp(B, true);
                Programs.fillLoop(x, lo, hi, ref(B, coef, offset));
                x.addLoop(lo, hi);
                x.analyze();
                // The cells go one way, so all are in range if the two at the ends are.
                int first = coef * lo + offset;
                int last = coef * hi + offset;
                boolean inRange = first >= 0 && first < length && last >= 0 && last < length;
                int due = lo > hi || inRange ? 1 : 0;
                Check.equal(coef + "*i+" + offset + " for " + lo + ".." + hi + " of " + length,
                        x.arrayInfo(B, LoopFuser.A_CONTRACTED), due);
            }
        }
    }

    private static void needsAWriteFirst() {
        LoopFuser x = withTemp();
        Programs.copyLoop(x, 0, 7, ref(C, 1, 0), ref(B, 1, 0));
        Programs.fillLoop(x, 0, 7, ref(B, 1, 0));
        expect("read first", x, 1, false);

        for (int which = 0; which <= 1; which++) {
            x = withTemp();
            x.addLoop(0, 7);
            x.addStatement(LoopFuser.OP_ADD, B, 1, 0);
            x.setValueOperand(1 - which, LoopFuser.OPND_CONST, 1);
            x.setArrayOperand(which, B, 1, 0);
            Programs.copyLoop(x, 0, 7, ref(C, 1, 0), ref(B, 1, 0));
            expect("read by the first write's operand " + which, x, 1, false);
        }

        x = withTemp();
        Programs.copyLoop(x, 0, 7, ref(C, 1, 0), ref(B, 1, 0));
        x.addLoop(0, 7);
        expect("only read", x, 1, false);
    }

    private static void bodyOrder() {
        LoopFuser x = withTemp();
        x.addLoop(0, 7);
        Programs.copy(x, ref(C, 1, 0), ref(B, 1, 0));
        x.addStatement(LoopFuser.OP_ADD, B, 1, 0);
        x.addLoop(0, 7);
        expect("read in the statement before", x, 1, false);

        x = withTemp();
        x.addLoop(0, 7);
        x.addStatement(LoopFuser.OP_ADD, B, 1, 0);
        Programs.copy(x, ref(C, 1, 0), ref(B, 1, 0));
        x.addLoop(0, 7);
        expect("read in the statement after", x, 1, true);

        x = withTemp();
        x.addLoop(0, 7);
        Programs.copyLoop(x, 0, 7, ref(C, 1, 0), ref(B, 1, 0));
        x.addLoop(0, 7);
        Programs.fillLoop(x, 0, 7, ref(B, 1, 0));
        Programs.copyLoop(x, 0, 7, ref(D, 1, 0), ref(B, 1, 0));
        expect("read in the loop before", x, 1, false);

        x = withTemp();
        x.addLoop(0, 7);
        x.addStatement(LoopFuser.OP_ADD, B, 1, 0);
        x.addStatement(LoopFuser.OP_ADD, B, 1, 0);
        x.setArrayOperand(0, B, 1, 0);
        x.setArrayOperand(1, B, 1, 0);
        Programs.copyLoop(x, 0, 7, ref(D, 1, 0), ref(B, 1, 0));
        expect("read by a later write", x, 1, true);
    }

    private static void runsGroupsInOrder() {
        // B[i] needs A[i] of this iteration, A[i-1] of the one before, and its own first value.
        LoopFuser x = new LoopFuser(4, 4);
        Programs.fillInit(x);
        x.addLoop(0, 3);
        Programs.copy(x, ref(A, 1, 0), ref(C, 1, -1));
        x.addLoop(0, 3);
        x.addStatement(LoopFuser.OP_ADD, B, 1, 0);
        x.setArrayOperand(0, A, 1, 0);
        x.setArrayOperand(1, A, 1, -1);
        x.addStatement(LoopFuser.OP_MUL, B, 1, 0);
        x.setArrayOperand(0, B, 1, 0);
        x.setValueOperand(1, LoopFuser.OPND_INDEX, 2);
        Programs.copyLoop(x, 0, 2, ref(D, 1, 1), ref(D, 1, 0));
        Check.equal("order: groups", x.analyze(), 2);
        Check.equal("order: run", x.run(), 0);
        int[][] due = {
            {0, 300, 301, 302}, {0, 900, 2404, 3015}, {300, 301, 302, 303}, {400, 400, 400, 400}};
        for (int array = 0; array < 4; array++) {
            for (int index = 0; index < 4; index++) {
                Check.equal("order", x.getOriginal(array, index), due[array][index]);
                Check.equal("order, fused", x.getFused(array, index), due[array][index]);
            }
        }
    }

    private static void readsAndWritesScalars() {
        countsSeveral();
        // Written anew in every iteration, read twice, changed in between.
        LoopFuser x = withTemp();
        Programs.fillLoop(x, 0, 7, ref(B, -1, 7));
        Programs.copyLoop(x, 0, 7, ref(C, 1, 0), ref(B, -1, 7));
        x.addLoop(0, 7);
        x.addStatement(LoopFuser.OP_MUL, B, -1, 7);
        x.setArrayOperand(0, B, -1, 7);
        x.setArrayOperand(1, B, -1, 7);
        Programs.copyLoop(x, 0, 7, ref(D, 1, 0), ref(B, -1, 7));
        expect("scalar", x, 1, true);
        for (int i = 0; i < 8; i++) {
            Check.equal("scalar", x.getFused(C, i), i + 1);
            Check.equal("scalar squared", x.getFused(D, i), (i + 1) * (i + 1));
            Check.equal("array squared", x.getOriginal(B, 7 - i), (i + 1) * (i + 1));
        }
    }

    private static void countsSeveral() {
        LoopFuser x = new LoopFuser(6, 8);
        for (int array = 0; array < 5; array++) {
            x.setTemp(array, true);
        }
        Programs.fillLoop(x, 0, 7, ref(0, 1, 0));
        Programs.copyLoop(x, 0, 7, ref(1, 1, 0), ref(0, 1, 0));
        Programs.copyLoop(x, 0, 7, ref(5, 1, 0), ref(1, 1, 0));
        Programs.fillLoop(x, 0, 3, ref(2, 2, 0));
        Programs.copyLoop(x, 0, 3, ref(5, 2, 1), ref(2, 2, 0));
        Programs.copyLoop(x, 0, 3, ref(5, 2, 0), ref(3, 2, 0));
        Check.equal("several: groups", x.analyze(), 2);
        int[] due = {1, 1, 1, 0, 0, 0};
        for (int array = 0; array < 6; array++) {
            Check.equal("several: " + array, x.arrayInfo(array, LoopFuser.A_CONTRACTED), due[array]);
        }
        Check.equal("several: Q_CONTRACTED", x.query(LoopFuser.Q_CONTRACTED), 3);
        Check.equal("several: run", x.run(), 0);
        int[] cells = {0, 1, 0, 2, 0, 3, 0, 4};
        for (int index = 0; index < 8; index++) {
            Check.equal("several: original", x.getOriginal(5, index), cells[index]);
            Check.equal("several: fused", x.getFused(5, index), cells[index]);
        }
    }

    private static void keepsInitInFused() {
        LoopFuser x = Programs.ran();
        int[] original = {0, 5, 16, 27, 8, 0, 0, 0};
        int[] fused = {0, 77, 0, 0, 0, 0, 0, 0};
        int[] results = {0, 0, 0, 0, 24, 81, 48, 15};
        for (int index = 0; index < 8; index++) {
            Check.equal("contracted, original " + index, x.getOriginal(2, index), original[index]);
            Check.equal("contracted, fused " + index, x.getFused(2, index), fused[index]);
            Check.equal("result, original " + index, x.getOriginal(1, index), results[index]);
            Check.equal("result, fused " + index, x.getFused(1, index), results[index]);
        }
        for (int value : Values.any()) {
            x.setInit(2, 4, value);
            Check.equal("fused before the run", x.getFused(2, 4), fused[4]);
            x.run();
            Check.equal("fused after the run", x.getFused(2, 4), value);
            Check.equal("original after the run", x.getOriginal(2, 4), 8);
            fused[4] = value;
        }
    }
}
