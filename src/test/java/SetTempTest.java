import java.util.Map;

/** Promise 2. */
public final class SetTempTest {
    public static void main(String[] args) {
        setsOneFlag();
        refusesWrongArrays();
        isRefusedAfterAnalysis();
        Check.end();
    }

    private static void setsOneFlag() {
        LoopFuser x = Programs.built();
        for (int array = 0; array < 4; array++) {
            for (boolean temp : new boolean[] {true, true, false, false, true}) {
                Map<String, Integer> before = Check.state(x);
                String name = "setTemp(" + array + ", " + temp + ")";
                Check.isTrue(name, x.setTemp(array, temp));
                Check.changed(name, before, x, "array " + array + " 0: " + (temp ? 1 : 0));
            }
        }
    }

    private static void refusesWrongArrays() {
        LoopFuser x = Programs.built();
        Map<String, Integer> before = Check.state(x);
        for (int array : new int[] {-1, 4, 5, 6, Integer.MIN_VALUE, Integer.MAX_VALUE}) {
            Check.isFalse("setTemp(" + array + ", true)", x.setTemp(array, true));
            Check.isFalse("setTemp(" + array + ", false)", x.setTemp(array, false));
            Check.unchanged("setTemp(" + array + ")", before, x);
        }
    }

    private static void isRefusedAfterAnalysis() {
        LoopFuser x = Programs.analyzed();
        Map<String, Integer> before = Check.state(x);
        for (int array = -1; array <= 4; array++) {
            Check.isFalse("late setTemp(" + array + ", true)", x.setTemp(array, true));
            Check.isFalse("late setTemp(" + array + ", false)", x.setTemp(array, false));
            Check.unchanged("late setTemp(" + array + ")", before, x);
        }
    }
}
