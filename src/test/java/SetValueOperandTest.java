import java.util.List;
import java.util.function.Supplier;

/** Promise 6. */
public final class SetValueOperandTest {
    public static void main(String[] args) {
        Check.sentence("with value `value` (any int, including the extremes)",
                SetValueOperandTest::setsAnyValue);
        Check.sentence("of the last statement (number S-1)",
                SetValueOperandTest::reachesTheLastStatement);
        Check.sentence("replacing whatever that operand was, and answers true",
                SetValueOperandTest::replacesWhatStoodThere);
        Check.sentence("Afterwards that operand reports array -1 and coef 0",
                SetValueOperandTest::reportsNoArray);
        Check.sentence("Refused (answers false) if, in this order: the phase is not `PHASE_BUILD`",
                SetValueOperandTest::isRefusedLate);
        Check.sentence("S == 0", SetValueOperandTest::refusesWithoutStatement);
        Check.sentence("which is not 0 or 1", SetValueOperandTest::refusesWrongWhich);
        Check.sentence("kind is not `OPND_CONST` or `OPND_INDEX`",
                SetValueOperandTest::refusesWrongKind);
        Check.sentence("Nothing else changes, as in Promise 5",
                SetValueOperandTest::changesNothingElse);
        Check.end();
    }

    private static void refuse(Supplier<LoopFuser> start, int which, int kind, int value) {
        Twins.unseen("setValueOperand " + which + " " + kind + " " + value, start,
                x -> x.setValueOperand(which, kind, value) ? 1 : 0, 0);
    }

    private static void setsAnyValue() {
        LoopFuser x = Operands.withStatement(2);
        for (int value : Values.any()) {
            for (int which = 0; which <= 1; which++) {
                Operands.setValue(x, which, LoopFuser.OPND_CONST, value);
                Operands.setValue(x, which, LoopFuser.OPND_INDEX, value);
            }
        }
    }

    private static void reachesTheLastStatement() {
        LoopFuser x = new LoopFuser(4, 8);
        x.addLoop(0, 3);
        for (int stmt = 0; stmt < 12; stmt++) {
            x.addStatement(LoopFuser.OP_ADD, 0, 1, 0);
            Operands.setValue(x, 0, stmt % 2, 100 + stmt);
            Operands.setValue(x, 1, 1 - stmt % 2, -100 - stmt);
        }
        LoopFuser y = Operands.withLaterLoop();
        Operands.setValue(y, 0, LoopFuser.OPND_INDEX, 4);
        Operands.setValue(y, 1, LoopFuser.OPND_INDEX, 4);
    }

    private static void replacesWhatStoodThere() {
        for (int which = 0; which <= 1; which++) {
            LoopFuser x = Programs.built();
            x.setArrayOperand(which, 3, 2, 16);
            Operands.setValue(x, which, LoopFuser.OPND_CONST, 5);
            Operands.setValue(x, which, LoopFuser.OPND_CONST, 5);
            Operands.setValue(x, which, LoopFuser.OPND_INDEX, 5);
            Operands.setValue(x, which, LoopFuser.OPND_CONST, -5);
            x.setArrayOperand(which, 1, -2, -16);
            Operands.setValue(x, which, LoopFuser.OPND_INDEX, 0);
        }
    }

    private static void reportsNoArray() {
        for (int kind = LoopFuser.OPND_CONST; kind <= LoopFuser.OPND_INDEX; kind++) {
            for (int array = 0; array < 6; array++) {
                for (int coef = -2; coef <= 2; coef++) {
                    LoopFuser x = Operands.withStatement(6);
                    x.setArrayOperand(0, array, coef, 1);
                    x.setArrayOperand(1, array, coef, 1);
                    x.setValueOperand(0, kind, 1);
                    Check.equal("array 0", x.stmtInfo(0, LoopFuser.S_ARRAY0), -1);
                    Check.equal("coef 0", x.stmtInfo(0, LoopFuser.S_COEF0), 0);
                    Check.equal("array 1", x.stmtInfo(0, LoopFuser.S_ARRAY1), array);
                    x.setValueOperand(1, kind, 1);
                    Check.equal("array 1", x.stmtInfo(0, LoopFuser.S_ARRAY1), -1);
                    Check.equal("coef 1", x.stmtInfo(0, LoopFuser.S_COEF1), 0);
                }
            }
        }
    }

    private static void isRefusedLate() {
        for (Supplier<LoopFuser> late : Programs.late()) {
            for (int which = 0; which <= 1; which++) {
                refuse(late, which, LoopFuser.OPND_CONST, 9);
                refuse(late, which, LoopFuser.OPND_INDEX, Integer.MAX_VALUE);
            }
            refuse(late, 2, 2, 0);
        }
    }

    private static void refusesWithoutStatement() {
        for (Supplier<LoopFuser> start : List.<Supplier<LoopFuser>>of(
                Programs::empty, Programs::withLoop)) {
            refuse(start, 0, LoopFuser.OPND_CONST, 9);
            refuse(start, 1, LoopFuser.OPND_INDEX, Integer.MIN_VALUE);
            refuse(start, -1, -1, 0);
        }
        Operands.setValue(Operands.withStatement(2), 0, LoopFuser.OPND_CONST, 9);
    }

    private static void refusesWrongWhich() {
        for (Supplier<LoopFuser> start : Programs.withStatement()) {
            for (int wrong : Values.outside(0, 1)) {
                refuse(start, wrong, LoopFuser.OPND_CONST, 9);
                refuse(start, wrong, LoopFuser.OPND_INDEX, 9);
            }
        }
        Operands.setValue(Programs.built(), 0, LoopFuser.OPND_CONST, 9);
        Operands.setValue(Programs.built(), 1, LoopFuser.OPND_CONST, 9);
    }

    private static void refusesWrongKind() {
        for (Supplier<LoopFuser> start : Programs.withStatement()) {
            for (int which = 0; which <= 1; which++) {
                for (int wrong : Values.outside(LoopFuser.OPND_CONST, LoopFuser.OPND_INDEX)) {
                    refuse(start, which, wrong, 1);
                }
                refuse(start, which, LoopFuser.OPND_ARRAY, 0);
            }
        }
        Operands.setValue(Programs.built(), 0, LoopFuser.OPND_CONST, 1);
        Operands.setValue(Programs.built(), 0, LoopFuser.OPND_INDEX, 1);
    }

    private static void changesNothingElse() {
        for (Supplier<LoopFuser> start : Programs.withStatement()) {
            for (int which = 0; which <= 1; which++) {
                LoopFuser x = start.get();
                Operands.setValue(x, which, LoopFuser.OPND_INDEX, -7);
                Operands.setValue(x, 1 - which, LoopFuser.OPND_CONST, 7);
                Operands.setValue(x, which, LoopFuser.OPND_CONST, 3);
            }
        }
    }
}
