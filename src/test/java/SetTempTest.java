import java.util.function.Supplier;

/** Promise 2. */
public final class SetTempTest {
    public static void main(String[] args) {
        Check.sentence("`setTemp(array, temp)` sets TEMP(array) := `temp` and answers true",
                SetTempTest::setsEveryFlag);
        Check.sentence("refused (answers false) if, tested in this order, the phase is not "
                + "`PHASE_BUILD`", SetTempTest::isRefusedLate);
        Check.sentence("or `array` is not in 0..A-1", SetTempTest::refusesWrongArrays);
        Check.sentence("Setting a flag to the value it already has is allowed and answers true",
                SetTempTest::setsTheSameAgain);
        Check.sentence("Nothing else changes: no other array's flag, no loop, statement, content, "
                + "phase or count", SetTempTest::changesNothingElse);
        Check.end();
    }

    private static void set(LoopFuser x, int array, boolean temp) {
        int[] before = Check.state(x);
        String name = "setTemp(" + array + ", " + temp + ")";
        Check.isTrue(name, x.setTemp(array, temp));
        Check.changed(name, before, x, "array " + array + " 0: " + (temp ? 1 : 0));
    }

    private static void setsEveryFlag() {
        for (int arrays = 2; arrays <= 6; arrays++) {
            LoopFuser x = new LoopFuser(arrays, 4);
            for (int array = 0; array < arrays; array++) {
                set(x, array, true);
            }
            for (int array = arrays - 1; array >= 0; array--) {
                set(x, array, false);
            }
        }
    }

    private static void isRefusedLate() {
        for (Supplier<LoopFuser> late : Programs.late()) {
            for (int array = -1; array <= 4; array++) {
                int a = array;
                Twins.unseen("late setTemp(" + a + ", true)", late,
                        x -> x.setTemp(a, true) ? 1 : 0, 0);
                Twins.unseen("late setTemp(" + a + ", false)", late,
                        x -> x.setTemp(a, false) ? 1 : 0, 0);
            }
        }
    }

    private static void refusesWrongArrays() {
        for (int arrays = 2; arrays <= 6; arrays++) {
            int count = arrays;
            for (int array : Values.outside(0, arrays - 1)) {
                Twins.unseen("setTemp(" + array + ", true) of " + arrays,
                        () -> new LoopFuser(count, 8), x -> x.setTemp(array, true) ? 1 : 0, 0);
            }
        }
        for (Supplier<LoopFuser> building : Programs.building()) {
            for (int array : Values.outside(0, 3)) {
                Twins.unseen("setTemp(" + array + ", true)", building,
                        x -> x.setTemp(array, true) ? 1 : 0, 0);
                Twins.unseen("setTemp(" + array + ", false)", building,
                        x -> x.setTemp(array, false) ? 1 : 0, 0);
            }
        }
    }

    private static void setsTheSameAgain() {
        for (Supplier<LoopFuser> building : Programs.building()) {
            for (int array = 0; array < 4; array++) {
                int a = array;
                LoopFuser x = building.get();
                set(x, a, true);
                set(x, a, true);
                set(x, a, false);
                set(x, a, false);
                Supplier<LoopFuser> temp = () -> withFlag(building, a, true);
                Supplier<LoopFuser> other = () -> withFlag(building, a, false);
                Twins.unseen("true again", temp, y -> y.setTemp(a, true) ? 1 : 0, 1);
                Twins.unseen("false again", other, y -> y.setTemp(a, false) ? 1 : 0, 1);
            }
        }
    }

    private static LoopFuser withFlag(Supplier<LoopFuser> start, int array, boolean temp) {
        LoopFuser x = start.get();
        x.setTemp(array, temp);
        return x;
    }

    private static void changesNothingElse() {
        for (Supplier<LoopFuser> building : Programs.building()) {
            LoopFuser x = building.get();
            for (int flags = 0; flags < 16; flags++) {
                for (int array = 0; array < 4; array++) {
                    set(x, array, (flags >> array & 1) == 1);
                }
            }
            for (int array = 0; array < 4; array++) {
                int a = array;
                boolean temp = building.get().arrayInfo(a, LoopFuser.A_TEMP) == 1;
                Twins.unseen("there and back", building,
                        y -> y.setTemp(a, !temp) && y.setTemp(a, temp) ? 1 : 0, 1);
            }
        }
    }
}
