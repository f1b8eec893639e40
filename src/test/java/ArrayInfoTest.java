import java.util.function.Supplier;

/** Promise 13. */
public final class ArrayInfoTest {
    public static void main(String[] args) {
        Check.sentence("answers, for array in 0..A-1, changing nothing",
                ArrayInfoTest::changesNothing);
        Check.sentence("`A_TEMP`: 1 if TEMP else 0", ArrayInfoTest::temp);
        Check.sentence("`A_CONTRACTED`: 1 if CONTRACTED else 0", ArrayInfoTest::contracted);
        Check.sentence("Array not in 0..A-1", ArrayInfoTest::otherArrays);
        Check.sentence("or any other `what`: `INVALID`", ArrayInfoTest::otherSelectors);
        Check.end();
    }

    private static void changesNothing() {
        for (Supplier<LoopFuser> state : Programs.every()) {
            for (int array = 0; array < 4; array++) {
                for (int what = 0; what <= 1; what++) {
                    int a = array;
                    int w = what;
                    int due = state.get().arrayInfo(a, w);
                    Twins.unseen("arrayInfo", state, x -> x.arrayInfo(a, w), due);
                }
            }
        }
    }

    private static void temp() {
        for (int flags = 0; flags < 64; flags++) {
            LoopFuser x = new LoopFuser(6, 4);
            for (int array = 0; array < 6; array++) {
                x.setTemp(array, (flags >> array & 1) == 1);
            }
            for (int n = 0; n < 3; n++) {
                for (int array = 0; array < 6; array++) {
                    int due = flags >> array & 1;
                    Check.equal("temp " + array, x.arrayInfo(array, LoopFuser.A_TEMP), due);
                }
                x.analyze();
                x.run();
            }
        }
    }

    private static void contracted() {
        for (int flags = 0; flags < 64; flags++) {
            LoopFuser x = new LoopFuser(6, 4);
            x.addLoop(0, 3);
            for (int array = 0; array < 6; array++) {
                x.setTemp(array, true);
                if ((flags >> array & 1) == 1) {
                    x.addStatement(0, array, 1, 0);
                }
            }
            x.addLoop(0, 3);
            for (int array = 0; array < 6; array++) {
                Check.equal("building " + array, x.arrayInfo(array, LoopFuser.A_CONTRACTED), 0);
            }
            for (int n = 0; n < 3; n++) {
                x.analyze();
                x.run();
                for (int array = 0; array < 6; array++) {
                    int due = flags >> array & 1;
                    Check.equal("array " + array, x.arrayInfo(array, LoopFuser.A_CONTRACTED), due);
                }
            }
        }
    }

    private static void otherArrays() {
        for (int arrays = 2; arrays <= 6; arrays++) {
            int count = arrays;
            for (int what = 0; what <= 1; what++) {
                int w = what;
                for (int array : Values.outside(0, arrays - 1)) {
                    Twins.unseen("arrayInfo(" + array + ", " + w + ") of " + arrays,
                            () -> new LoopFuser(count, 8), x -> x.arrayInfo(array, w),
                            LoopFuser.INVALID);
                }
                LoopFuser x = new LoopFuser(arrays, 8);
                Check.equal("first", x.arrayInfo(0, what), 0);
                Check.equal("last", x.arrayInfo(arrays - 1, what), 0);
            }
        }
        for (Supplier<LoopFuser> state : Programs.every()) {
            for (int array : Values.outside(0, 3)) {
                Twins.unseen("arrayInfo(" + array + ", 0)", state, x -> x.arrayInfo(array, 0),
                        LoopFuser.INVALID);
                Twins.unseen("arrayInfo(" + array + ", 1)", state, x -> x.arrayInfo(array, 1),
                        LoopFuser.INVALID);
            }
        }
    }

    private static void otherSelectors() {
        for (Supplier<LoopFuser> state : Programs.every()) {
            for (int what : Values.outside(0, 1)) {
                for (int array : new int[] {0, 2, 3, 4}) {
                    Twins.unseen("arrayInfo(" + array + ", " + what + ")", state,
                            x -> x.arrayInfo(array, what), LoopFuser.INVALID);
                }
            }
        }
    }
}
