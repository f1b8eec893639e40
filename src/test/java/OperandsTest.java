import java.util.Map;

/** Promises 5 and 6. */
public final class OperandsTest {
    public static void main(String[] args) {
        setsEveryReference();
        setsEveryValue();
        replacesWhatStoodThere();
        refusesWithoutStatement();
        refusesWrongArrayOperands();
        refusesWrongValueOperands();
        areRefusedAfterAnalysis();
        reachTheLastStatementOfAnEarlierLoop();
        Check.end();
    }

    private static void setArray(LoopFuser x, int stmt, int which, int array, int coef, int offset) {
        Map<String, Integer> before = Check.state(x);
        String name = "setArrayOperand " + which + " " + array + " " + coef + " " + offset;
        Check.isTrue(name, x.setArrayOperand(which, array, coef, offset));
        operandChanged(name, before, x, stmt, which, LoopFuser.OPND_ARRAY, array, coef, offset);
    }

    private static void setValue(LoopFuser x, int stmt, int which, int kind, int value) {
        Map<String, Integer> before = Check.state(x);
        String name = "setValueOperand " + which + " " + kind + " " + value;
        Check.isTrue(name, x.setValueOperand(which, kind, value));
        operandChanged(name, before, x, stmt, which, kind, -1, 0, value);
    }

    private static void operandChanged(String name, Map<String, Integer> before, LoopFuser x,
            int stmt, int which, int... fields) {
        String[] changes = new String[4];
        for (int field = 0; field < 4; field++) {
            changes[field] = "stmt " + stmt + " " + (5 + 4 * which + field) + ": " + fields[field];
        }
        Check.changed(name, before, x, changes);
    }

    private static void setsEveryReference() {
        LoopFuser x = Programs.built();
        for (int which = 0; which <= 1; which++) {
            for (int coef = -2; coef <= 2; coef++) {
                for (int offset = -16; offset <= 16; offset++) {
                    setArray(x, 1, which, (offset + 16) % 4, coef, offset);
                }
            }
        }
    }

    private static void setsEveryValue() {
        LoopFuser x = Programs.built();
        int[] values = {0, 1, -1, 3, -17, 17, 1000, -1000, Integer.MIN_VALUE, Integer.MAX_VALUE};
        for (int value : values) {
            for (int which = 0; which <= 1; which++) {
                setValue(x, 1, which, LoopFuser.OPND_CONST, value);
                setValue(x, 1, which, LoopFuser.OPND_INDEX, value);
            }
        }
    }

    private static void replacesWhatStoodThere() {
        LoopFuser x = Programs.built();
        setArray(x, 1, 1, 3, 2, 16);
        setArray(x, 1, 0, 3, 2, 16);
        setValue(x, 1, 1, LoopFuser.OPND_CONST, 0);
        setArray(x, 1, 1, 0, 0, 0);
        setValue(x, 1, 1, LoopFuser.OPND_INDEX, -5);
        x.addStatement(LoopFuser.OP_SUB, 3, -2, 16);
        setArray(x, 2, 0, 1, -2, -16);
        setValue(x, 2, 0, LoopFuser.OPND_INDEX, 9);
    }

    private static void refusesWithoutStatement() {
        LoopFuser x = new LoopFuser(2, 4);
        x.addLoop(0, 3);
        Map<String, Integer> before = Check.state(x);
        Check.isFalse("no statement, array", x.setArrayOperand(0, 0, 0, 0));
        Check.isFalse("no statement, value", x.setValueOperand(0, 0, 0));
        Check.unchanged("operands without statement", before, x);
    }

    private static void refusesWrongArrayOperands() {
        int[][] calls = {
            {-1, 0, 0, 0}, {2, 0, 0, 0}, {Integer.MIN_VALUE, 0, 0, 0}, {Integer.MAX_VALUE, 0, 0, 0},
            {0, -1, 0, 0}, {0, 4, 0, 0}, {1, 5, 0, 0}, {0, 6, 0, 0},
            {0, Integer.MIN_VALUE, 0, 0}, {1, Integer.MAX_VALUE, 0, 0},
            {0, 0, -3, 0}, {1, 0, 3, 0}, {0, 0, Integer.MIN_VALUE, 0}, {0, 0, Integer.MAX_VALUE, 0},
            {0, 0, 0, -17}, {1, 0, 0, 17}, {0, 0, 0, Integer.MIN_VALUE}, {0, 0, 0, Integer.MAX_VALUE}};
        LoopFuser x = Programs.built();
        Map<String, Integer> before = Check.state(x);
        for (int[] c : calls) {
            String name = "setArrayOperand " + c[0] + " " + c[1] + " " + c[2] + " " + c[3];
            Check.isFalse(name, x.setArrayOperand(c[0], c[1], c[2], c[3]));
            Check.unchanged(name, before, x);
        }
    }

    private static void refusesWrongValueOperands() {
        int[][] calls = {
            {-1, 0}, {2, 0}, {Integer.MIN_VALUE, 1}, {Integer.MAX_VALUE, 1},
            {0, -1}, {1, LoopFuser.OPND_ARRAY}, {0, LoopFuser.OPND_ARRAY}, {0, 3},
            {1, Integer.MIN_VALUE}, {1, Integer.MAX_VALUE}};
        LoopFuser x = Programs.built();
        Map<String, Integer> before = Check.state(x);
        for (int[] c : calls) {
            String name = "setValueOperand " + c[0] + " " + c[1];
            Check.isFalse(name, x.setValueOperand(c[0], c[1], 1));
            Check.unchanged(name, before, x);
        }
    }

    private static void areRefusedAfterAnalysis() {
        LoopFuser x = Programs.analyzed();
        Map<String, Integer> before = Check.state(x);
        Check.isFalse("late setArrayOperand", x.setArrayOperand(0, 0, 0, 0));
        Check.isFalse("late setValueOperand", x.setValueOperand(0, 0, 0));
        Check.unchanged("late operands", before, x);
    }

    private static void reachTheLastStatementOfAnEarlierLoop() {
        LoopFuser x = Programs.built();
        x.addLoop(1, 1);
        setArray(x, 1, 1, 3, 1, 1);
        setValue(x, 1, 0, LoopFuser.OPND_INDEX, 4);
    }
}
