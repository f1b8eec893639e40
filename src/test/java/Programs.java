/** Objects in the states that several tests start from. */
final class Programs {
    private Programs() {
    }

    /** Two loops 0..3 that fuse, with array 2 contracted on analysis; some INIT cells are set. */
    static LoopFuser built() {
        LoopFuser x = new LoopFuser(4, 8);
        x.setTemp(2, true);
        x.addLoop(0, 3);
        x.addStatement(LoopFuser.OP_ADD, 2, 1, 1);
        x.setArrayOperand(0, 0, 2, -1);
        x.setValueOperand(1, LoopFuser.OPND_INDEX, 5);
        x.addLoop(0, 3);
        x.addStatement(LoopFuser.OP_MUL, 1, -1, 7);
        x.setArrayOperand(0, 2, 1, 1);
        x.setValueOperand(1, LoopFuser.OPND_CONST, 3);
        x.setInit(0, 1, 10);
        x.setInit(0, 3, 20);
        x.setInit(2, 1, 77);
        x.setInit(3, 7, -4);
        return x;
    }

    static LoopFuser analyzed() {
        LoopFuser x = built();
        x.analyze();
        return x;
    }

    static LoopFuser ran() {
        LoopFuser x = analyzed();
        x.run();
        return x;
    }

    /** One loop lo..hi with the one statement dest[coef*i+offset] = array[c*i+o] + 0. */
    static void copyLoop(LoopFuser x, int lo, int hi, int[] dest, int[] source) {
        x.addLoop(lo, hi);
        copy(x, dest, source);
    }

    static void copy(LoopFuser x, int[] dest, int[] source) {
        x.addStatement(LoopFuser.OP_ADD, dest[0], dest[1], dest[2]);
        x.setArrayOperand(0, source[0], source[1], source[2]);
    }

    /** One loop lo..hi with the one statement dest[coef*i+offset] = i + 1. */
    static void fillLoop(LoopFuser x, int lo, int hi, int[] dest) {
        x.addLoop(lo, hi);
        x.addStatement(LoopFuser.OP_ADD, dest[0], dest[1], dest[2]);
        x.setValueOperand(0, LoopFuser.OPND_INDEX, 1);
    }

    static int[] ref(int array, int coef, int offset) {
        return new int[] {array, coef, offset};
    }
}
