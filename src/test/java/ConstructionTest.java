import java.util.function.Consumer;

/** Promise 1. */
public final class ConstructionTest {
    private static final int[] LOW_ARRAYS = {Integer.MIN_VALUE, -65534, -252, -6, -2, -1, 0, 1};
    private static final int[] HIGH_ARRAYS = {7, 8, 16, 258, 65540, Integer.MAX_VALUE};
    private static final int[] LOW_LENGTHS = {Integer.MIN_VALUE, -65530, -248, -16, -4, -1, 0, 3};
    private static final int[] HIGH_LENGTHS = {17, 18, 32, 264, 65544, Integer.MAX_VALUE};

    public static void main(String[] args) {
        Check.sentence("a value below the least becomes the least",
                ConstructionTest::belowTheLeast);
        Check.sentence("a value above the greatest becomes the greatest",
                ConstructionTest::aboveTheGreatest);
        Check.sentence("any value in between is kept", ConstructionTest::between);
        Check.sentence("Every int is accepted, including negative values and "
                + "`Integer.MIN_VALUE` / `Integer.MAX_VALUE`", ConstructionTest::everyInt);
        Check.sentence("At the start: L = 0, S = 0", ConstructionTest::noLoopsAndStatements);
        Check.sentence("no array has TEMP; no array has CONTRACTED", ConstructionTest::noFlags);
        Check.sentence("every cell of INIT, ORIG and FUSED of every array is 0",
                ConstructionTest::everyCellIsZero);
        Check.sentence("the phase is `PHASE_BUILD`; the run count is 0; there are 0 groups",
                ConstructionTest::noPhaseRunsAndGroups);
        Check.sentence("At the start", ConstructionTest::objectsAreApart);
        Check.end();
    }

    private static void expectSize(int arrays, int length, int dueArrays, int dueLength) {
        String name = "new LoopFuser(" + arrays + ", " + length + ") ";
        LoopFuser x = new LoopFuser(arrays, length);
        Check.equal(name + "Q_ARRAYS", x.query(LoopFuser.Q_ARRAYS), dueArrays);
        Check.equal(name + "Q_LENGTH", x.query(LoopFuser.Q_LENGTH), dueLength);
        Check.isTrue(name + "last cell", x.setInit(dueArrays - 1, dueLength - 1, 9));
        Check.equal(name + "last cell", x.getInit(dueArrays - 1, dueLength - 1), 9);
        Check.isFalse(name + "array behind", x.setInit(dueArrays, dueLength - 1, 9));
        Check.isFalse(name + "cell behind", x.setInit(dueArrays - 1, dueLength, 9));
    }

    private static void belowTheLeast() {
        for (int length = 4; length <= 16; length++) {
            for (int arrays : LOW_ARRAYS) {
                expectSize(arrays, length, 2, length);
            }
        }
        for (int arrays = 2; arrays <= 6; arrays++) {
            for (int length : LOW_LENGTHS) {
                expectSize(arrays, length, arrays, 4);
            }
        }
    }

    private static void aboveTheGreatest() {
        for (int length = 4; length <= 16; length++) {
            for (int arrays : HIGH_ARRAYS) {
                expectSize(arrays, length, 6, length);
            }
        }
        for (int arrays = 2; arrays <= 6; arrays++) {
            for (int length : HIGH_LENGTHS) {
                expectSize(arrays, length, arrays, 16);
            }
        }
    }

    private static void between() {
        for (int arrays = 2; arrays <= 6; arrays++) {
            for (int length = 4; length <= 16; length++) {
                expectSize(arrays, length, arrays, length);
            }
        }
    }

    private static void everyInt() {
        for (int arrays : Values.any()) {
            for (int length : Values.any()) {
                int dueArrays = arrays < 2 ? 2 : 6;
                int dueLength = length < 4 ? 4 : 16;
                expectSize(arrays, length, dueArrays, dueLength);
            }
        }
    }

    /** Every size in range, and the sizes next to it and farthest from it. */
    private static void onNewObjects(Consumer<LoopFuser> test) {
        int[] arrays = {Integer.MIN_VALUE, 1, 2, 3, 4, 5, 6, 7, Integer.MAX_VALUE};
        for (int a : arrays) {
            for (int length = 3; length <= 17; length++) {
                test.accept(new LoopFuser(a, length));
            }
            test.accept(new LoopFuser(a, Integer.MIN_VALUE));
            test.accept(new LoopFuser(a, Integer.MAX_VALUE));
        }
    }

    private static void noLoopsAndStatements() {
        onNewObjects(x -> {
            Check.equal("Q_LOOPS", x.query(LoopFuser.Q_LOOPS), 0);
            Check.equal("Q_STATEMENTS", x.query(LoopFuser.Q_STATEMENTS), 0);
            Check.equal("loop 0", x.loopInfo(0, LoopFuser.L_LO), LoopFuser.INVALID);
            Check.equal("statement 0", x.stmtInfo(0, LoopFuser.S_OP), LoopFuser.INVALID);
            Check.equal("the first loop", x.addLoop(0, 0), 0);
            Check.equal("the first statement", x.addStatement(0, 0, 0, 0), 0);
        });
    }

    private static void noFlags() {
        onNewObjects(x -> {
            for (int array = 0; array < x.query(LoopFuser.Q_ARRAYS); array++) {
                Check.equal("temp " + array, x.arrayInfo(array, LoopFuser.A_TEMP), 0);
                Check.equal("contracted " + array, x.arrayInfo(array, LoopFuser.A_CONTRACTED), 0);
            }
            Check.equal("Q_CONTRACTED", x.query(LoopFuser.Q_CONTRACTED), 0);
        });
    }

    private static void everyCellIsZero() {
        onNewObjects(x -> {
            for (int array = 0; array < x.query(LoopFuser.Q_ARRAYS); array++) {
                for (int index = 0; index < x.query(LoopFuser.Q_LENGTH); index++) {
                    Check.equal("init", x.getInit(array, index), 0);
                    Check.equal("original", x.getOriginal(array, index), 0);
                    Check.equal("fused", x.getFused(array, index), 0);
                }
            }
        });
    }

    private static void noPhaseRunsAndGroups() {
        onNewObjects(x -> {
            Check.equal("Q_PHASE", x.query(LoopFuser.Q_PHASE), LoopFuser.PHASE_BUILD);
            Check.equal("Q_RUNS", x.query(LoopFuser.Q_RUNS), 0);
            Check.equal("Q_GROUPS", x.query(LoopFuser.Q_GROUPS), 0);
        });
    }

    private static void objectsAreApart() {
        LoopFuser first = new LoopFuser(4, 8);
        int[] before = Check.state(first);
        LoopFuser other = Programs.ran();
        Check.unchanged("another object", before, first);
        Check.equal("the other object's runs", other.query(LoopFuser.Q_RUNS), 1);
        Check.same("an object made later", Check.state(new LoopFuser(4, 8)), before);
    }
}
