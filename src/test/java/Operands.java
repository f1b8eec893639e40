/** What the tests of both operand calls share. */
final class Operands {
    private Operands() {
    }

    static void setArray(LoopFuser x, int which, int array, int coef, int offset) {
        int[] before = Check.state(x);
        String name = "setArrayOperand " + which + " " + array + " " + coef + " " + offset;
        Check.isTrue(name, x.setArrayOperand(which, array, coef, offset));
        changed(name, before, x, which, LoopFuser.OPND_ARRAY, array, coef, offset);
    }

    static void setValue(LoopFuser x, int which, int kind, int value) {
        int[] before = Check.state(x);
        String name = "setValueOperand " + which + " " + kind + " " + value;
        Check.isTrue(name, x.setValueOperand(which, kind, value));
        changed(name, before, x, which, kind, -1, 0, value);
    }

    private static void changed(String name, int[] before, LoopFuser x, int which, int... fields) {
        int last = x.query(LoopFuser.Q_STATEMENTS) - 1;
        String[] changes = new String[4];
        for (int field = 0; field < 4; field++) {
            changes[field] = "stmt " + last + " " + (5 + 4 * which + field) + ": " + fields[field];
        }
        Check.changed(name, before, x, changes);
    }

    static LoopFuser withStatement(int arrays) {
        LoopFuser x = new LoopFuser(arrays, 8);
        x.addLoop(0, 3);
        x.addStatement(LoopFuser.OP_ADD, 0, 1, 0);
        return x;
    }

    /** The last statement stands in an earlier loop than the last one. */
    static LoopFuser withLaterLoop() {
        LoopFuser x = Programs.built();
        x.addLoop(1, 1);
        return x;
    }
}
