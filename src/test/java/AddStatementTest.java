import java.util.List;
import java.util.function.Supplier;

/** Promise 4. */
public final class AddStatementTest {
    public static void main(String[] args) {
        Check.sentence("appends the statement `destArray[coef*i+offset] = CONST 0 op CONST 0` to the "
                + "last loop (number L-1) and answers its number (the old S)",
                AddStatementTest::appendsEveryStatement);
        Check.sentence("S grows by 1 and that loop's statement count grows by 1",
                AddStatementTest::countsGrow);
        Check.sentence("Both operands start as `OPND_CONST` with value 0",
                AddStatementTest::operandsStartAsZero);
        Check.sentence("Refused (answers -1) if, in this order: the phase is not `PHASE_BUILD`",
                AddStatementTest::isRefusedLate);
        Check.sentence("L == 0", AddStatementTest::refusesWithoutLoop);
        Check.sentence("S == `MAX_STATEMENTS`", AddStatementTest::refusesTheThirteenth);
        Check.sentence("op not in 0..2", AddStatementTest::refusesWrongOp);
        Check.sentence("destArray not in 0..A-1", AddStatementTest::refusesWrongArray);
        Check.sentence("coef not in -2..2", AddStatementTest::refusesWrongCoef);
        Check.sentence("offset not in -16..16", AddStatementTest::refusesWrongOffset);
        Check.sentence("Nothing else changes: earlier statements, loop bounds, other loops' counts, "
                + "flags, contents, phase and the run count stay as they were",
                AddStatementTest::changesNothingElse);
        Check.end();
    }

    private static void add(LoopFuser x, int op, int array, int coef, int offset) {
        int stmt = x.query(LoopFuser.Q_STATEMENTS);
        int loop = x.query(LoopFuser.Q_LOOPS) - 1;
        int count = x.loopInfo(loop, LoopFuser.L_COUNT) + 1;
        int[] before = Check.state(x);
        String name = "addStatement " + op + " " + array + " " + coef + " " + offset;
        Check.equal(name, x.addStatement(op, array, coef, offset), stmt);
        String s = "stmt " + stmt + " ";
        Check.changed(name, before, x,
                "query 1: " + (stmt + 1), "loop " + loop + " 3: " + count,
                s + "0: " + loop, s + "1: " + op,
                s + "2: " + array, s + "3: " + coef, s + "4: " + offset,
                s + "5: 0", s + "6: -1", s + "7: 0", s + "8: 0",
                s + "9: 0", s + "10: -1", s + "11: 0", s + "12: 0");
    }

    private static LoopFuser withLoop(int arrays) {
        LoopFuser x = new LoopFuser(arrays, 8);
        x.addLoop(0, 3);
        return x;
    }

    private static void refuse(Supplier<LoopFuser> start, int op, int array, int coef, int offset) {
        Twins.unseen("addStatement " + op + " " + array + " " + coef + " " + offset, start,
                x -> x.addStatement(op, array, coef, offset), -1);
    }

    private static void appendsEveryStatement() {
        for (int op = 0; op <= 2; op++) {
            for (int array = 0; array < 6; array++) {
                for (int coef = -2; coef <= 2; coef++) {
                    for (int offset = -16; offset <= 16; offset++) {
                        add(withLoop(6), op, array, coef, offset);
                    }
                }
            }
        }
    }

    private static void countsGrow() {
        LoopFuser x = withLoop(2);
        for (int stmt = 0; stmt < 12; stmt++) {
            Check.equal("number", x.addStatement(stmt % 3, stmt % 2, 1, stmt), stmt);
            Check.equal("Q_STATEMENTS", x.query(LoopFuser.Q_STATEMENTS), stmt + 1);
            Check.equal("L_COUNT", x.loopInfo(0, LoopFuser.L_COUNT), stmt + 1);
        }
        LoopFuser y = withLoop(2);
        y.addStatement(0, 0, 1, 0);
        y.addLoop(4, 2);
        y.addLoop(2, 4);
        y.addStatement(0, 0, 1, 0);
        y.addStatement(0, 0, 1, 0);
        int[] counts = {1, 0, 2};
        for (int loop = 0; loop < 3; loop++) {
            Check.equal("L_COUNT " + loop, y.loopInfo(loop, LoopFuser.L_COUNT), counts[loop]);
        }
    }

    private static void operandsStartAsZero() {
        for (int op = 0; op <= 2; op++) {
            LoopFuser x = Programs.empty();
            x.addLoop(0, 7);
            x.addStatement(op, 1, 1, 0);
            x.setArrayOperand(0, 2, 1, 3);
            x.setValueOperand(1, LoopFuser.OPND_INDEX, 7);
            add(x, op, 0, 1, 0);
            x.analyze();
            x.run();
            for (int index = 0; index < 8; index++) {
                Check.equal("0 op 0 in original", x.getOriginal(0, index), 0);
                Check.equal("0 op 0 in fused", x.getFused(0, index), 0);
            }
        }
    }

    private static void isRefusedLate() {
        for (Supplier<LoopFuser> late : Programs.late()) {
            refuse(late, 0, 0, 0, 0);
            refuse(late, 2, 3, 2, 16);
            refuse(late, 2, 3, -2, -16);
            refuse(late, 3, 4, 3, 17);
        }
    }

    private static void refusesWithoutLoop() {
        for (int arrays = 2; arrays <= 6; arrays++) {
            int count = arrays;
            refuse(() -> new LoopFuser(count, 8), 0, 0, 0, 0);
        }
        refuse(Programs::empty, 2, 3, 2, 16);
        refuse(Programs::empty, -1, -1, -3, -17);
        add(Programs.withLoop(), 0, 0, 0, 0);
    }

    private static void refusesTheThirteenth() {
        LoopFuser x = withLoop(2);
        for (int stmt = 0; stmt < LoopFuser.MAX_STATEMENTS; stmt++) {
            add(x, stmt % 3, stmt % 2, 1, stmt);
        }
        for (Supplier<LoopFuser> full : List.<Supplier<LoopFuser>>of(
                Programs::fullOfStatements, Programs::full, AddStatementTest::fullWithNewLoop)) {
            refuse(full, 0, 0, 0, 0);
            refuse(full, 2, 3, -2, 16);
            refuse(full, 3, 4, 3, 17);
        }
    }

    /** The new loop itself is empty, but there is no room for a statement of it. */
    private static LoopFuser fullWithNewLoop() {
        LoopFuser x = Programs.fullOfStatements();
        x.addLoop(1, 2);
        return x;
    }

    private static void refusesWrongOp() {
        for (Supplier<LoopFuser> building : Programs.building()) {
            for (int wrong : Values.outside(0, 2)) {
                refuse(building, wrong, 0, 0, 0);
            }
        }
        add(Programs.built(), 0, 0, 0, 0);
        add(Programs.built(), 2, 0, 0, 0);
    }

    private static void refusesWrongArray() {
        for (int arrays = 2; arrays <= 6; arrays++) {
            int count = arrays;
            for (int wrong : Values.outside(0, arrays - 1)) {
                refuse(() -> withLoop(count), 0, wrong, 0, 0);
            }
            add(withLoop(arrays), 0, 0, 1, 0);
            add(withLoop(arrays), 0, arrays - 1, 1, 0);
        }
        for (Supplier<LoopFuser> building : Programs.building()) {
            for (int wrong : Values.outside(0, 3)) {
                refuse(building, 0, wrong, 0, 0);
            }
        }
    }

    private static void refusesWrongCoef() {
        for (Supplier<LoopFuser> building : Programs.building()) {
            for (int wrong : Values.outside(-2, 2)) {
                refuse(building, 0, 0, wrong, 0);
            }
        }
        add(Programs.built(), 0, 0, -2, 0);
        add(Programs.built(), 0, 0, 2, 0);
    }

    private static void refusesWrongOffset() {
        for (Supplier<LoopFuser> building : Programs.building()) {
            for (int wrong : Values.outside(-16, 16)) {
                refuse(building, 0, 0, 0, wrong);
            }
        }
        add(Programs.built(), 0, 0, 0, -16);
        add(Programs.built(), 0, 0, 0, 16);
    }

    private static void changesNothingElse() {
        LoopFuser x = Programs.built();
        add(x, LoopFuser.OP_SUB, 3, 2, 16);
        x.addLoop(4, 2);
        x.addLoop(2, 4);
        add(x, LoopFuser.OP_ADD, 0, -2, -16);
        add(x, LoopFuser.OP_MUL, 0, 0, 0);
        for (Supplier<LoopFuser> building : Programs.building()) {
            LoopFuser y = building.get();
            boolean hasRoom = y.query(LoopFuser.Q_STATEMENTS) < LoopFuser.MAX_STATEMENTS;
            if (hasRoom && y.query(LoopFuser.Q_LOOPS) > 0) {
                add(y, LoopFuser.OP_SUB, 3, -1, 7);
            }
        }
    }
}
