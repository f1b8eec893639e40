import java.util.Map;

/** Promise 1. */
public final class ConstructionTest {
    public static void main(String[] args) {
        int[][] arrays = {
            {Integer.MIN_VALUE, 2}, {-1, 2}, {0, 2}, {1, 2}, {2, 2}, {3, 3}, {4, 4}, {5, 5}, {6, 6},
            {7, 6}, {100, 6}, {Integer.MAX_VALUE, 6}};
        int[][] lengths = {
            {Integer.MIN_VALUE, 4}, {-1, 4}, {0, 4}, {3, 4}, {4, 4}, {5, 5}, {10, 10}, {15, 15},
            {16, 16}, {17, 16}, {100, 16}, {Integer.MAX_VALUE, 16}};
        for (int[] a : arrays) {
            for (int[] n : lengths) {
                startsEmpty(a[0], n[0], a[1], n[1]);
            }
        }
        objectsAreApart();
        Check.end();
    }

    private static void startsEmpty(int arrays, int length, int dueArrays, int dueLength) {
        String name = "new LoopFuser(" + arrays + ", " + length + ") ";
        LoopFuser x = new LoopFuser(arrays, length);
        int[] due = {0, 0, LoopFuser.PHASE_BUILD, 0, 0, 0, dueArrays, dueLength};
        for (int what = 0; what < due.length; what++) {
            Check.equal(name + "query " + what, x.query(what), due[what]);
        }
        for (int array = 0; array < 7; array++) {
            int flag = array < dueArrays ? 0 : LoopFuser.INVALID;
            Check.equal(name + "temp " + array, x.arrayInfo(array, LoopFuser.A_TEMP), flag);
            Check.equal(name + "contracted " + array,
                    x.arrayInfo(array, LoopFuser.A_CONTRACTED), flag);
            for (int index = 0; index < 17; index++) {
                String cell = name + "cell " + array + " " + index;
                Check.equal(cell, x.getInit(array, index), 0);
                Check.equal(cell, x.getOriginal(array, index), 0);
                Check.equal(cell, x.getFused(array, index), 0);
                boolean isCell = array < dueArrays && index < dueLength;
                Check.equal(cell + " set", x.setInit(array, index, 1) ? 1 : 0, isCell ? 1 : 0);
            }
        }
        Check.equal(name + "loop 0", x.loopInfo(0, LoopFuser.L_LO), LoopFuser.INVALID);
        Check.equal(name + "statement 0", x.stmtInfo(0, LoopFuser.S_OP), LoopFuser.INVALID);
    }

    private static void objectsAreApart() {
        LoopFuser first = new LoopFuser(4, 8);
        Map<String, Integer> before = Check.state(first);
        LoopFuser other = Programs.ran();
        Check.unchanged("another object", before, first);
        Check.equal("the other object's runs", other.query(LoopFuser.Q_RUNS), 1);
    }
}
