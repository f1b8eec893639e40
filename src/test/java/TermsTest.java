import java.util.List;
import java.util.function.Supplier;
import java.util.function.ToIntFunction;
import java.util.stream.IntStream;

/** The section "What it is" up to its constants, which FaceTest looks at. */
public final class TermsTest {
    /** Every call of the face that can change something, with right and with wrong arguments. */
    private static final List<ToIntFunction<LoopFuser>> CALLS = List.of(
            x -> x.setTemp(1, true) ? 1 : 0,
            x -> x.setTemp(2, false) ? 1 : 0,
            x -> x.setTemp(4, true) ? 1 : 0,
            x -> x.addLoop(0, 3),
            x -> x.addLoop(16, 3),
            x -> x.addStatement(0, 0, 1, 0),
            x -> x.addStatement(3, 0, 1, 0),
            x -> x.setArrayOperand(0, 3, 1, 0) ? 1 : 0,
            x -> x.setArrayOperand(2, 3, 1, 0) ? 1 : 0,
            x -> x.setValueOperand(1, 0, 6) ? 1 : 0,
            x -> x.setValueOperand(1, 2, 6) ? 1 : 0,
            x -> x.setInit(3, 7, 6) ? 1 : 0,
            x -> x.setInit(3, 8, 6) ? 1 : 0);

    public static void main(String[] args) {
        Check.sentence("Arrays are numbered 0..A-1; each has cells 0..N-1", TermsTest::arrays);
        Check.sentence("Every cell of all three starts at 0", TermsTest::cellsStartAtZero);
        Check.sentence("a flag **CONTRACTED** (starts false; set only by `analyze`)",
                TermsTest::onlyAnalyzeContracts);
        Check.sentence("Loops are numbered 0, 1, .. and statements 0, 1, .. in order of addition",
                TermsTest::numbers);
        Check.sentence("A statement belongs to the loop last added before it, so each loop's "
                + "statements are consecutive", TermsTest::statementsOfALoop);
        Check.sentence("its index i takes lo, lo+1, ..., hi", TermsTest::iterations);
        Check.sentence("if lo > hi it runs no iteration", TermsTest::noIteration);
        Check.sentence("`OP_ADD` (X+Y), `OP_SUB` (X-Y) or `OP_MUL` (X*Y), all wrapping as Java int",
                TermsTest::operatorsWrap);
        Check.sentence("`OPND_CONST` with value v (gives v)", TermsTest::constants);
        Check.sentence("`OPND_INDEX` with value v (gives i+v, wrapping as Java int)",
                TermsTest::indexWraps);
        Check.sentence("a reference `R[c*i+o]` with array R, coef c in -2..2 and offset o in -16..16",
                TermsTest::readsEveryReference);
        Check.sentence("The destination is a reference of the same kind",
                TermsTest::writesEveryReference);
        Check.sentence("it is **in range** when 0 <= c*i+o <= N-1", TermsTest::range);
        Check.sentence("a read of operand 0 if it is `OPND_ARRAY`, then a read of operand 1 if it is "
                + "`OPND_ARRAY`, then the write of the destination", TermsTest::accesses);
        Check.sentence("`PHASE_BUILD` at start; `analyze()` moves to `PHASE_ANALYZED`, which is "
                + "never left", TermsTest::phases);
        Check.sentence("A **refused** call changes nothing at all", TermsTest::refusedCalls);
        Check.end();
    }

    private static void arrays() {
        for (int arrays = 2; arrays <= 6; arrays++) {
            for (int length = 4; length <= 16; length++) {
                LoopFuser x = new LoopFuser(arrays, length);
                Programs.fillInit(x);
                x.analyze();
                x.run();
                for (int array = -1; array <= 6; array++) {
                    for (int index = -1; index <= 16; index++) {
                        boolean isCell = array >= 0 && array < arrays && index >= 0 && index < length;
                        int due = isCell ? 100 * (array + 1) + index : 0;
                        Check.equal("init", x.getInit(array, index), due);
                        Check.equal("original", x.getOriginal(array, index), due);
                        Check.equal("fused", x.getFused(array, index), due);
                    }
                }
            }
        }
    }

    private static void cellsStartAtZero() {
        LoopFuser x = new LoopFuser(6, 16);
        for (int n = 0; n < 3; n++) {
            for (int array = 0; array < 6; array++) {
                for (int index = 0; index < 16; index++) {
                    Check.equal("init", x.getInit(array, index), 0);
                    Check.equal("original", x.getOriginal(array, index), 0);
                    Check.equal("fused", x.getFused(array, index), 0);
                }
            }
            // Neither a program nor its analysis touches the contents.
            Programs.fillLoop(x, 0, 15, Programs.ref(n, 1, 0));
            if (n == 1) {
                x.analyze();
            }
        }
    }

    private static void onlyAnalyzeContracts() {
        for (ToIntFunction<LoopFuser> call : CALLS) {
            LoopFuser x = Programs.built();
            call.applyAsInt(x);
            x.run();
            for (int array = 0; array < 4; array++) {
                Check.equal("while building", x.arrayInfo(array, LoopFuser.A_CONTRACTED), 0);
            }
            Check.equal("while building", x.query(LoopFuser.Q_CONTRACTED), 0);
            LoopFuser y = Programs.analyzed();
            y.run();
            call.applyAsInt(y);
            y.analyze();
            y.run();
            for (int array = 0; array < 4; array++) {
                int due = array == 2 ? 1 : 0;
                Check.equal("analyzed", y.arrayInfo(array, LoopFuser.A_CONTRACTED), due);
            }
            Check.equal("analyzed", y.query(LoopFuser.Q_CONTRACTED), 1);
        }
    }

    private static void numbers() {
        LoopFuser x = new LoopFuser(2, 4);
        int stmt = 0;
        for (int loop = 0; loop < 8; loop++) {
            Check.equal("refused loop", x.addLoop(0, 16), -1);
            Check.equal("loop", x.addLoop(loop, 15), loop);
            Check.equal("its lo", x.loopInfo(loop, LoopFuser.L_LO), loop);
            for (int n = 0; n <= loop % 3 && stmt < 12; n++) {
                Check.equal("refused statement", x.addStatement(0, 2, 0, 0), -1);
                Check.equal("statement", x.addStatement(0, 1, 0, stmt), stmt);
                Check.equal("its offset", x.stmtInfo(stmt, LoopFuser.S_DEST_OFFSET), stmt);
                stmt++;
            }
        }
    }

    private static void statementsOfALoop() {
        LoopFuser x = new LoopFuser(2, 4);
        int[] counts = {0, 3, 0, 1, 5, 0, 3, 0};
        int stmt = 0;
        for (int loop = 0; loop < 8; loop++) {
            x.addLoop(0, loop);
            for (int n = 0; n < counts[loop]; n++) {
                x.addStatement(0, 0, 0, 0);
            }
        }
        for (int loop = 0; loop < 8; loop++) {
            Check.equal("first of " + loop, x.loopInfo(loop, LoopFuser.L_FIRST), stmt);
            Check.equal("count of " + loop, x.loopInfo(loop, LoopFuser.L_COUNT), counts[loop]);
            for (int n = 0; n < counts[loop]; n++) {
                Check.equal("loop of " + stmt, x.stmtInfo(stmt, LoopFuser.S_LOOP), loop);
                stmt++;
            }
        }
    }

    /** Cell i of array 0 counts the visits of i, cell 0 of array 1 counts all. */
    private static void expectIterations(int lo, int hi, boolean fuse) {
        LoopFuser x = new LoopFuser(2, 16);
        x.addLoop(lo, hi);
        x.addStatement(LoopFuser.OP_ADD, 0, 1, 0);
        x.setArrayOperand(0, 0, 1, 0);
        x.setValueOperand(1, LoopFuser.OPND_CONST, 1);
        x.addStatement(LoopFuser.OP_ADD, 1, 0, 0);
        x.setArrayOperand(0, 1, 0, 0);
        x.setValueOperand(1, LoopFuser.OPND_CONST, 1);
        if (fuse) {
            x.addLoop(lo, hi);
        }
        Check.equal("groups", x.analyze(), 1);
        Check.equal("run", x.run(), 0);
        String name = lo + ".." + hi + " visits ";
        for (int i = 0; i < 16; i++) {
            int due = lo <= i && i <= hi ? 1 : 0;
            Check.equal(name + i, x.getOriginal(0, i), due);
            Check.equal(name + i + ", fused", x.getFused(0, i), due);
        }
        int due = lo > hi ? 0 : hi - lo + 1;
        Check.equal(name + "in all", x.getOriginal(1, 0), due);
        Check.equal(name + "in all, fused", x.getFused(1, 0), due);
    }

    private static void iterations() {
        for (int lo = 0; lo <= 15; lo++) {
            for (int hi = lo; hi <= 15; hi++) {
                expectIterations(lo, hi, false);
                expectIterations(lo, hi, true);
            }
        }
    }

    private static void noIteration() {
        for (int hi = 0; hi <= 15; hi++) {
            for (int lo = hi + 1; lo <= 15; lo++) {
                expectIterations(lo, hi, false);
                expectIterations(lo, hi, true);
            }
        }
    }

    /** The answer of one statement at iteration i, in both results. */
    private static void expectResult(String name, LoopFuser x, int due) {
        x.analyze();
        Check.equal(name + ": run", x.run(), 0);
        Check.equal(name, x.getOriginal(0, 0), due);
        Check.equal(name + ", fused", x.getFused(0, 0), due);
    }

    private static int computed(int op, int left, int right) {
        long exact = op == LoopFuser.OP_ADD ? (long) left + right : (long) left - right;
        if (op == LoopFuser.OP_MUL) {
            exact = (long) left * right;
        }
        return (int) exact;
    }

    private static void operatorsWrap() {
        for (int op = 0; op <= 2; op++) {
            for (int left : Values.any()) {
                for (int right : Values.any()) {
                    int due = computed(op, left, right);
                    String name = left + " op " + op + " " + right;
                    LoopFuser x = new LoopFuser(3, 4);
                    x.addLoop(0, 0);
                    x.addStatement(op, 0, 0, 0);
                    x.setValueOperand(0, LoopFuser.OPND_CONST, left);
                    x.setValueOperand(1, LoopFuser.OPND_CONST, right);
                    expectResult(name, x, due);
                    expectResult(name + " of cells", onCells(op, left, right), due);
                    expectResult(name + " through a scalar", onScalar(op, left, right), due);
                }
            }
        }
    }

    private static LoopFuser onCells(int op, int left, int right) {
        LoopFuser x = new LoopFuser(3, 4);
        x.setInit(1, 3, left);
        x.setInit(2, 0, right);
        x.addLoop(0, 0);
        x.addStatement(op, 0, 0, 0);
        x.setArrayOperand(0, 1, 0, 3);
        x.setArrayOperand(1, 2, 0, 0);
        return x;
    }

    private static LoopFuser onScalar(int op, int left, int right) {
        LoopFuser x = new LoopFuser(3, 4);
        x.setTemp(1, true);
        x.addLoop(0, 0);
        x.addStatement(op, 1, 1, 2);
        x.setValueOperand(0, LoopFuser.OPND_CONST, left);
        x.setValueOperand(1, LoopFuser.OPND_CONST, right);
        Programs.copyLoop(x, 0, 0, Programs.ref(0, 0, 0), Programs.ref(1, 1, 2));
        return x;
    }

    private static void constants() {
        for (int value : Values.any()) {
            for (int which = 0; which <= 1; which++) {
                for (int i : new int[] {0, 1, 15}) {
                    LoopFuser x = new LoopFuser(2, 4);
                    x.addLoop(i, i);
                    x.addStatement(LoopFuser.OP_ADD, 0, 0, 0);
                    x.setValueOperand(which, LoopFuser.OPND_CONST, value);
                    expectResult("CONST " + value + " at " + i, x, value);
                }
            }
        }
    }

    private static void indexWraps() {
        int[] edges = {
            Integer.MAX_VALUE - 16, Integer.MAX_VALUE - 15, Integer.MAX_VALUE - 14, -16, -15, -14};
        int[] values = IntStream.concat(IntStream.of(Values.any()), IntStream.of(edges)).toArray();
        for (int value : values) {
            for (int which = 0; which <= 1; which++) {
                for (int i = 0; i <= 15; i++) {
                    LoopFuser x = new LoopFuser(2, 4);
                    x.addLoop(i, i);
                    x.addStatement(LoopFuser.OP_ADD, 0, 0, 0);
                    x.setValueOperand(which, LoopFuser.OPND_INDEX, value);
                    expectResult("INDEX " + value + " at " + i, x, (int) ((long) value + i));
                }
            }
        }
    }

    private static void readsEveryReference() {
        for (int coef = -2; coef <= 2; coef++) {
            for (int offset = -16; offset <= 16; offset++) {
                for (int which = 0; which <= 1; which++) {
                    LoopFuser x = new LoopFuser(6, 16);
                    Programs.fillInit(x);
                    x.addLoop(0, 15);
                    x.addStatement(LoopFuser.OP_ADD, 0, 1, 0);
                    x.setArrayOperand(which, 4, coef, offset);
                    x.analyze();
                    x.run();
                    for (int i = 0; i < 16; i++) {
                        int cell = coef * i + offset;
                        int due = cell >= 0 && cell <= 15 ? 500 + cell : 0;
                        String name = "read of " + coef + "*" + i + "+" + offset;
                        Check.equal(name, x.getOriginal(0, i), due);
                        Check.equal(name + ", fused", x.getFused(0, i), due);
                    }
                }
            }
        }
    }

    private static void writesEveryReference() {
        for (int coef = -2; coef <= 2; coef++) {
            for (int offset = -16; offset <= 16; offset++) {
                for (int i = 0; i <= 15; i++) {
                    LoopFuser x = new LoopFuser(6, 16);
                    x.addLoop(i, i);
                    x.addStatement(LoopFuser.OP_ADD, 3, coef, offset);
                    x.setValueOperand(0, LoopFuser.OPND_CONST, 8);
                    expectOneCell("write of " + coef + "*" + i + "+" + offset, x, 3,
                            coef * i + offset);
                }
            }
        }
    }

    /** Of contents all 0, the run leaves an 8 in that cell, if it is one, and nothing else. */
    private static void expectOneCell(String name, LoopFuser x, int array, int cell) {
        x.analyze();
        int[] before = Check.state(x);
        Check.equal(name + ": run", x.run(), 0);
        if (cell >= 0 && cell < x.query(LoopFuser.Q_LENGTH)) {
            Check.changed(name, before, x, "query 5: 1",
                    "original " + array + " " + cell + ": 8", "fused " + array + " " + cell + ": 8");
        } else {
            Check.changed(name, before, x, "query 5: 1");
        }
    }

    private static void range() {
        for (int length = 4; length <= 16; length++) {
            for (int coef = -2; coef <= 2; coef++) {
                for (int cell : new int[] {-2, -1, 0, 1, length - 1, length, length + 1}) {
                    for (int i = 0; i <= 15; i++) {
                        int offset = cell - coef * i;
                        if (offset >= -16 && offset <= 16) {
                            rangeOfRead(length, i, coef, offset);
                            rangeOfWrite(length, i, coef, offset);
                        }
                    }
                }
            }
        }
    }

    private static void rangeOfRead(int length, int i, int coef, int offset) {
        for (int which = 0; which <= 1; which++) {
            LoopFuser x = new LoopFuser(4, length);
            Programs.fillInit(x);
            x.addLoop(i, i);
            x.addStatement(LoopFuser.OP_ADD, 0, 0, 0);
            x.setArrayOperand(which, 2, coef, offset);
            int cell = coef * i + offset;
            int due = 0 <= cell && cell <= length - 1 ? 300 + cell : 0;
            expectResult("read of cell " + cell + " of " + length, x, due);
        }
    }

    private static void rangeOfWrite(int length, int i, int coef, int offset) {
        LoopFuser x = new LoopFuser(4, length);
        x.addLoop(i, i);
        x.addStatement(LoopFuser.OP_ADD, 2, coef, offset);
        x.setValueOperand(0, LoopFuser.OPND_CONST, 8);
        int cell = coef * i + offset;
        expectOneCell("write of cell " + cell + " of " + length, x, 2, cell);
    }

    /** A statement writes 3[i]; the loop after it accesses 3[i+1], if at all, in the way told. */
    private static void expectAccess(String name, LoopFuser x, boolean isAccess) {
        x.analyze();
        int due = isAccess ? -1 : LoopFuser.NONE;
        Check.equal(name, x.loopInfo(1, LoopFuser.L_DIST), due);
    }

    private static void accesses() {
        for (int which = 0; which <= 1; which++) {
            for (int kind = LoopFuser.OPND_CONST; kind <= LoopFuser.OPND_INDEX; kind++) {
                LoopFuser x = new LoopFuser(4, 8);
                Programs.fillLoop(x, 0, 7, Programs.ref(3, 1, 0));
                x.addLoop(0, 7);
                x.addStatement(LoopFuser.OP_ADD, 1, 1, 0);
                x.setArrayOperand(which, 3, 1, 1);
                x.setValueOperand(which, kind, 3);
                expectAccess("a value is no access", x, false);
            }
            LoopFuser x = new LoopFuser(4, 8);
            Programs.fillLoop(x, 0, 7, Programs.ref(3, 1, 0));
            x.addLoop(0, 7);
            x.addStatement(LoopFuser.OP_ADD, 1, 1, 0);
            x.setValueOperand(which, LoopFuser.OPND_CONST, 3);
            x.setArrayOperand(which, 3, 1, 1);
            expectAccess("a reference is one", x, true);

            // Read and written in one statement: the read comes first, so array 3 stays.
            LoopFuser y = new LoopFuser(4, 8);
            y.setTemp(3, true);
            y.addLoop(0, 7);
            y.addStatement(LoopFuser.OP_ADD, 3, 1, 0);
            y.setArrayOperand(which, 3, 1, 0);
            y.addLoop(0, 7);
            y.analyze();
            Check.equal("read before write", y.arrayInfo(3, LoopFuser.A_CONTRACTED), 0);
        }
        LoopFuser x = new LoopFuser(4, 8);
        Programs.fillLoop(x, 0, 7, Programs.ref(3, 1, 0));
        Programs.fillLoop(x, 0, 7, Programs.ref(3, 1, 1));
        expectAccess("a destination is one", x, true);
    }

    private static void phases() {
        for (Supplier<LoopFuser> building : Programs.building()) {
            for (ToIntFunction<LoopFuser> call : CALLS) {
                LoopFuser x = building.get();
                call.applyAsInt(x);
                x.run();
                Check.equal("building", x.query(LoopFuser.Q_PHASE), LoopFuser.PHASE_BUILD);
                x.analyze();
                Check.equal("analyzed", x.query(LoopFuser.Q_PHASE), LoopFuser.PHASE_ANALYZED);
                call.applyAsInt(x);
                Check.equal("after a call", x.query(LoopFuser.Q_PHASE), LoopFuser.PHASE_ANALYZED);
                x.analyze();
                x.run();
                x.run();
                x.analyze();
                Check.equal("ever after", x.query(LoopFuser.Q_PHASE), LoopFuser.PHASE_ANALYZED);
            }
        }
    }

    /** Many refused calls in a row, as well as one alone, which the promises' own tests try. */
    private static void refusedCalls() {
        for (Supplier<LoopFuser> building : Programs.building()) {
            Twins.unseen("refused calls while building", building, x -> {
                int accepted = 0;
                for (int n = 0; n < 300; n++) {
                    accepted += x.setTemp(-1, true) || x.setTemp(4, true) ? 1 : 0;
                    accepted += 2 + x.addLoop(-1, 0) + x.addLoop(0, 16);
                    accepted += 2 + x.addStatement(0, 4, 0, 0) + x.addStatement(0, 0, 0, 17);
                    accepted += x.setArrayOperand(2, 0, 0, 0) ? 1 : 0;
                    accepted += x.setValueOperand(0, 2, 0) ? 1 : 0;
                    accepted += x.setInit(0, 8, 1) || x.setInit(4, 0, 1) ? 1 : 0;
                    accepted += 1 + x.run();
                }
                return accepted;
            }, 0);
        }
        for (Supplier<LoopFuser> late : Programs.late()) {
            Twins.unseen("refused calls after the analysis", late, x -> {
                int accepted = 0;
                for (int n = 0; n < 300; n++) {
                    accepted += x.setTemp(0, true) || x.setTemp(2, false) ? 1 : 0;
                    accepted += 2 + x.addLoop(0, 3) + x.addStatement(0, 0, 1, 0);
                    accepted += x.setArrayOperand(0, 0, 1, 0) ? 1 : 0;
                    accepted += x.setValueOperand(0, 0, 0) ? 1 : 0;
                    accepted += x.setInit(0, 8, 1) || x.setInit(4, 0, 1) ? 1 : 0;
                    accepted += 1 + x.analyze();
                }
                return accepted;
            }, 0);
        }
    }
}
