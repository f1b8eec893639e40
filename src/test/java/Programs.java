import java.util.ArrayList;
import java.util.List;
import java.util.function.Supplier;

/** Objects in the states that several tests start from, most with 4 arrays of 8 cells. */
final class Programs {
    private Programs() {
    }

    /** Every state of building: empty, in between, and full in each way. */
    static List<Supplier<LoopFuser>> building() {
        return List.of(Programs::empty, Programs::withLoop, Programs::built,
                Programs::fullOfLoops, Programs::fullOfStatements, Programs::full);
    }

    /** The states of building in which a statement stands, so that its operands can be set. */
    static List<Supplier<LoopFuser>> withStatement() {
        return List.of(Programs::built, Programs::fullOfLoops, Programs::fullOfStatements,
                Programs::full);
    }

    static List<Supplier<LoopFuser>> late() {
        return List.of(Programs::emptyAnalyzed, Programs::analyzed, Programs::ran,
                Programs::fullRan);
    }

    static List<Supplier<LoopFuser>> every() {
        List<Supplier<LoopFuser>> all = new ArrayList<>(building());
        all.addAll(late());
        return all;
    }

    static LoopFuser empty() {
        LoopFuser x = new LoopFuser(4, 8);
        fillInit(x);
        return x;
    }

    static LoopFuser withLoop() {
        LoopFuser x = empty();
        x.addLoop(0, 3);
        return x;
    }

    /** Two loops 0..3 that fuse, with array 2 contracted on analysis; some INIT cells are set. */
    static LoopFuser built() {
        LoopFuser x = new LoopFuser(4, 8);
        x.setTemp(2, true);
        x.addLoop(0, 3);
        x.addStatement(LoopFuser.OP_ADD, 2, 1, 1);
        x.setArrayOperand(0, 0, 2, -1);
        x.setValueOperand(1, LoopFuser.OPND_INDEX, 5);
        x.addLoop(0, 3);
        x.addStatement(LoopFuser.OP_MUL, 1, -1, 7);
        x.setArrayOperand(0, 2, 1, 1);
        x.setValueOperand(1, LoopFuser.OPND_CONST, 3);
        x.setInit(0, 1, 10);
        x.setInit(0, 3, 20);
        x.setInit(2, 1, 77);
        x.setInit(3, 7, -4);
        return x;
    }

    static LoopFuser fullOfLoops() {
        LoopFuser x = empty();
        for (int loop = 0; loop < LoopFuser.MAX_LOOPS; loop++) {
            copyLoop(x, 0, 3 + loop / 3, ref(loop % 4, 1, 0), ref((loop + 1) % 4, 1, loop % 2));
        }
        return x;
    }

    static LoopFuser fullOfStatements() {
        LoopFuser x = empty();
        x.setTemp(3, true);
        x.addLoop(0, 6);
        fillStatements(x, 5);
        x.addLoop(0, 6);
        fillStatements(x, LoopFuser.MAX_STATEMENTS);
        return x;
    }

    static LoopFuser full() {
        LoopFuser x = fullOfLoops();
        fillStatements(x, LoopFuser.MAX_STATEMENTS);
        return x;
    }

    private static void fillStatements(LoopFuser x, int count) {
        for (int stmt = x.query(LoopFuser.Q_STATEMENTS); stmt < count; stmt++) {
            x.addStatement(stmt % 3, 3 - stmt % 4, 1, stmt % 2);
            x.setArrayOperand(0, (stmt + 2) % 4, 1, 0);
            x.setValueOperand(1, LoopFuser.OPND_INDEX, stmt);
        }
    }

    static LoopFuser emptyAnalyzed() {
        LoopFuser x = empty();
        x.analyze();
        return x;
    }

    static LoopFuser analyzed() {
        LoopFuser x = built();
        x.analyze();
        return x;
    }

    static LoopFuser ran() {
        LoopFuser x = analyzed();
        x.run();
        return x;
    }

    static LoopFuser fullRan() {
        LoopFuser x = full();
        x.analyze();
        x.run();
        return x;
    }

    /** Every cell of every array gets a value of its own, and none of them 0. */
    static void fillInit(LoopFuser x) {
        for (int array = 0; array < x.query(LoopFuser.Q_ARRAYS); array++) {
            for (int index = 0; index < x.query(LoopFuser.Q_LENGTH); index++) {
                x.setInit(array, index, 100 * (array + 1) + index);
            }
        }
    }

    /** One loop lo..hi with the one statement dest[coef*i+offset] = array[c*i+o] + 0. */
    static void copyLoop(LoopFuser x, int lo, int hi, int[] dest, int[] source) {
        x.addLoop(lo, hi);
        copy(x, dest, source);
    }

    static void copy(LoopFuser x, int[] dest, int[] source) {
        x.addStatement(LoopFuser.OP_ADD, dest[0], dest[1], dest[2]);
        x.setArrayOperand(0, source[0], source[1], source[2]);
    }

    /** One loop lo..hi with the one statement dest[coef*i+offset] = i + 1. */
    static void fillLoop(LoopFuser x, int lo, int hi, int[] dest) {
        x.addLoop(lo, hi);
        x.addStatement(LoopFuser.OP_ADD, dest[0], dest[1], dest[2]);
        x.setValueOperand(0, LoopFuser.OPND_INDEX, 1);
    }

    static int[] ref(int array, int coef, int offset) {
        return new int[] {array, coef, offset};
    }
}
