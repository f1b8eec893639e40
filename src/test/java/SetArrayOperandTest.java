import java.util.List;
import java.util.function.Supplier;

/** Promise 5. */
public final class SetArrayOperandTest {
    public static void main(String[] args) {
        Check.sentence("makes operand `which` of the last statement (number S-1) the reference "
                + "`array[coef*i+offset]` (kind `OPND_ARRAY`)",
                SetArrayOperandTest::setsEveryReference);
        Check.sentence("of the last statement (number S-1)",
                SetArrayOperandTest::reachesTheLastStatement);
        Check.sentence("replacing whatever that operand was, and answers true",
                SetArrayOperandTest::replacesWhatStoodThere);
        Check.sentence("Refused (answers false) if, in this order: the phase is not `PHASE_BUILD`",
                SetArrayOperandTest::isRefusedLate);
        Check.sentence("S == 0", SetArrayOperandTest::refusesWithoutStatement);
        Check.sentence("which is not 0 or 1", SetArrayOperandTest::refusesWrongWhich);
        Check.sentence("array not in 0..A-1", SetArrayOperandTest::refusesWrongArray);
        Check.sentence("coef not in -2..2", SetArrayOperandTest::refusesWrongCoef);
        Check.sentence("offset not in -16..16", SetArrayOperandTest::refusesWrongOffset);
        Check.sentence("Nothing else changes: the other operand, the op and destination, every other "
                + "statement, all loops, flags, contents, phase and counts stay as they were",
                SetArrayOperandTest::changesNothingElse);
        Check.end();
    }

    private static void refuse(Supplier<LoopFuser> start, int which, int array, int coef,
            int offset) {
        Twins.unseen("setArrayOperand " + which + " " + array + " " + coef + " " + offset, start,
                x -> x.setArrayOperand(which, array, coef, offset) ? 1 : 0, 0);
    }

    private static void setsEveryReference() {
        LoopFuser x = Operands.withStatement(6);
        for (int which = 0; which <= 1; which++) {
            for (int array = 0; array < 6; array++) {
                for (int coef = -2; coef <= 2; coef++) {
                    for (int offset = -16; offset <= 16; offset++) {
                        Operands.setArray(x, which, array, coef, offset);
                    }
                }
            }
        }
    }

    private static void reachesTheLastStatement() {
        LoopFuser x = new LoopFuser(4, 8);
        x.addLoop(0, 3);
        for (int stmt = 0; stmt < 12; stmt++) {
            x.addStatement(LoopFuser.OP_ADD, 0, 1, 0);
            Operands.setArray(x, 0, stmt % 4, 1, stmt);
            Operands.setArray(x, 1, 3 - stmt % 4, -1, -stmt);
        }
        LoopFuser y = Operands.withLaterLoop();
        Operands.setArray(y, 0, 3, 1, 1);
        Operands.setArray(y, 1, 3, 1, 1);
    }

    private static void replacesWhatStoodThere() {
        for (int which = 0; which <= 1; which++) {
            LoopFuser x = Programs.built();
            x.setValueOperand(which, LoopFuser.OPND_CONST, Integer.MIN_VALUE);
            Operands.setArray(x, which, 3, 2, 16);
            Operands.setArray(x, which, 3, 2, 16);
            Operands.setArray(x, which, 0, 0, 0);
            x.setValueOperand(which, LoopFuser.OPND_INDEX, Integer.MAX_VALUE);
            Operands.setArray(x, which, 1, -2, -16);
        }
    }

    private static void isRefusedLate() {
        for (Supplier<LoopFuser> late : Programs.late()) {
            for (int which = 0; which <= 1; which++) {
                refuse(late, which, 0, 0, 0);
                refuse(late, which, 3, 2, 16);
                refuse(late, which, 3, -2, -16);
            }
            refuse(late, 2, 4, 3, 17);
        }
    }

    private static void refusesWithoutStatement() {
        for (Supplier<LoopFuser> start : List.<Supplier<LoopFuser>>of(
                Programs::empty, Programs::withLoop, SetArrayOperandTest::onlyLoops)) {
            refuse(start, 0, 0, 0, 0);
            refuse(start, 1, 3, 2, 16);
            refuse(start, -1, -1, -3, -17);
        }
        Operands.setArray(Operands.withStatement(2), 0, 0, 0, 0);
    }

    private static LoopFuser onlyLoops() {
        LoopFuser x = Programs.empty();
        for (int loop = 0; loop < 8; loop++) {
            x.addLoop(0, 7);
        }
        return x;
    }

    private static void refusesWrongWhich() {
        for (Supplier<LoopFuser> start : Programs.withStatement()) {
            for (int wrong : Values.outside(0, 1)) {
                refuse(start, wrong, 0, 0, 0);
            }
        }
        Operands.setArray(Programs.built(), 0, 0, 0, 0);
        Operands.setArray(Programs.built(), 1, 0, 0, 0);
    }

    private static void refusesWrongArray() {
        for (int arrays = 2; arrays <= 6; arrays++) {
            int count = arrays;
            for (int which = 0; which <= 1; which++) {
                for (int wrong : Values.outside(0, arrays - 1)) {
                    refuse(() -> Operands.withStatement(count), which, wrong, 0, 0);
                }
                Operands.setArray(Operands.withStatement(arrays), which, 0, 0, 0);
                Operands.setArray(Operands.withStatement(arrays), which, arrays - 1, 0, 0);
            }
        }
        for (Supplier<LoopFuser> start : Programs.withStatement()) {
            for (int wrong : Values.outside(0, 3)) {
                refuse(start, 1, wrong, 0, 0);
            }
        }
    }

    private static void refusesWrongCoef() {
        for (int which = 0; which <= 1; which++) {
            for (Supplier<LoopFuser> start : Programs.withStatement()) {
                for (int wrong : Values.outside(-2, 2)) {
                    refuse(start, which, 0, wrong, 0);
                }
            }
            Operands.setArray(Programs.built(), which, 0, -2, 0);
            Operands.setArray(Programs.built(), which, 0, 2, 0);
        }
    }

    private static void refusesWrongOffset() {
        for (int which = 0; which <= 1; which++) {
            for (Supplier<LoopFuser> start : Programs.withStatement()) {
                for (int wrong : Values.outside(-16, 16)) {
                    refuse(start, which, 0, 0, wrong);
                }
            }
            Operands.setArray(Programs.built(), which, 0, 0, -16);
            Operands.setArray(Programs.built(), which, 0, 0, 16);
        }
    }

    private static void changesNothingElse() {
        for (Supplier<LoopFuser> start : Programs.withStatement()) {
            for (int which = 0; which <= 1; which++) {
                LoopFuser x = start.get();
                Operands.setArray(x, which, 3, 1, -7);
                Operands.setArray(x, 1 - which, 2, -1, 7);
                Operands.setArray(x, which, 1, 2, 3);
            }
        }
    }
}
