import java.util.ArrayList;
import java.util.List;
import java.util.function.Supplier;
import java.util.function.ToIntFunction;

/** Promise 14. */
public final class CellsTest {
    public static void main(String[] args) {
        Check.sentence("`getInit(array, index)` answers INIT[array][index]", CellsTest::init);
        Check.sentence("`getOriginal(array, index)` answers ORIG[array][index]; `getFused(array, "
                + "index)` answers FUSED[array][index]", CellsTest::results);
        Check.sentence("Each answers 0 if array not in 0..A-1", CellsTest::otherArrays);
        Check.sentence("or index not in 0..N-1", CellsTest::otherIndexes);
        Check.sentence("None of them changes anything", CellsTest::changesNothing);
        Check.sentence("Before the first run that is not refused, every ORIG and FUSED cell is 0",
                CellsTest::beforeTheFirstRun);
        Check.end();
    }

    private static List<Supplier<LoopFuser>> states() {
        List<Supplier<LoopFuser>> all = Programs.every();
        all.add(() -> filledRan(4, 8));
        return all;
    }

    /** No cell of any content is 0, and array 1 is contracted. */
    private static LoopFuser filledRan(int arrays, int length) {
        LoopFuser x = new LoopFuser(arrays, length);
        Programs.fillInit(x);
        x.setTemp(1, true);
        Programs.fillLoop(x, 0, 3, Programs.ref(1, 1, 0));
        Programs.copyLoop(x, 0, 3, Programs.ref(0, 1, 0), Programs.ref(1, 1, 0));
        x.analyze();
        x.run();
        return x;
    }

    private static void init() {
        LoopFuser x = filledRan(6, 16);
        for (int value : Values.any()) {
            for (int array = 0; array < 6; array++) {
                for (int index = 0; index < 16; index++) {
                    x.setInit(array, index, value + 16 * array + index);
                }
            }
            for (int array = 0; array < 6; array++) {
                for (int index = 0; index < 16; index++) {
                    int due = value + 16 * array + index;
                    Check.equal("getInit", x.getInit(array, index), due);
                }
            }
        }
    }

    private static void results() {
        for (int arrays = 2; arrays <= 6; arrays++) {
            for (int length = 4; length <= 16; length++) {
                LoopFuser x = filledRan(arrays, length);
                for (int array = 0; array < arrays; array++) {
                    for (int index = 0; index < length; index++) {
                        int filled = 100 * (array + 1) + index;
                        int original = array < 2 && index < 4 ? index + 1 : filled;
                        int fused = array < 1 && index < 4 ? index + 1 : filled;
                        Check.equal("getOriginal", x.getOriginal(array, index), original);
                        Check.equal("getFused", x.getFused(array, index), fused);
                        Check.equal("getInit", x.getInit(array, index), filled);
                    }
                }
            }
        }
        LoopFuser x = Programs.ran();
        x.setInit(3, 7, 6);
        Check.equal("init set again", x.getInit(3, 7), 6);
        Check.equal("original of the last run", x.getOriginal(3, 7), -4);
        Check.equal("fused of the last run", x.getFused(3, 7), -4);
        for (int value : Values.any()) {
            x.setInit(3, 7, value);
            x.run();
            Check.equal("original", x.getOriginal(3, 7), value);
            Check.equal("fused", x.getFused(3, 7), value);
        }
    }

    private static void expectZero(Supplier<LoopFuser> start, int array, int index) {
        String name = "(" + array + ", " + index + ")";
        Twins.unseen("getInit" + name, start, x -> x.getInit(array, index), 0);
        Twins.unseen("getOriginal" + name, start, x -> x.getOriginal(array, index), 0);
        Twins.unseen("getFused" + name, start, x -> x.getFused(array, index), 0);
    }

    private static void otherArrays() {
        for (int arrays = 2; arrays <= 6; arrays++) {
            int count = arrays;
            for (int array : Values.outside(0, arrays - 1)) {
                expectZero(() -> filledRan(count, 16), array, 0);
                expectZero(() -> filledRan(count, 16), array, 15);
            }
        }
        for (Supplier<LoopFuser> state : states()) {
            for (int array : Values.outside(0, 3)) {
                expectZero(state, array, 3);
                expectZero(state, array, -1);
                expectZero(state, array, 8);
            }
        }
    }

    private static void otherIndexes() {
        for (int length = 4; length <= 16; length++) {
            int count = length;
            for (int index : Values.outside(0, length - 1)) {
                expectZero(() -> filledRan(3, count), 0, index);
                expectZero(() -> filledRan(3, count), 1, index);
                expectZero(() -> filledRan(3, count), 2, index);
            }
        }
        for (Supplier<LoopFuser> state : states()) {
            for (int index : Values.outside(0, 7)) {
                expectZero(state, 1, index);
            }
        }
    }

    private static void changesNothing() {
        List<ToIntFunction<LoopFuser>> getters = new ArrayList<>();
        for (int array = 0; array < 4; array++) {
            for (int index = 0; index < 8; index += 7) {
                int a = array;
                int n = index;
                getters.add(x -> x.getInit(a, n));
                getters.add(x -> x.getOriginal(a, n));
                getters.add(x -> x.getFused(a, n));
            }
        }
        for (Supplier<LoopFuser> state : states()) {
            for (ToIntFunction<LoopFuser> getter : getters) {
                Twins.unseen("getter", state, getter, getter.applyAsInt(state.get()));
            }
        }
    }

    private static void beforeTheFirstRun() {
        for (Supplier<LoopFuser> building : Programs.building()) {
            LoopFuser x = building.get();
            expectNoResults(x);
            x.run();
            expectNoResults(x);
            x.analyze();
            expectNoResults(x);
            x.setInit(0, 0, 9);
            x.analyze();
            expectNoResults(x);
            x.run();
            Check.equal("unwritten cell", x.getOriginal(3, 7), x.getInit(3, 7));
            Check.equal("unwritten cell, fused", x.getFused(3, 7), x.getInit(3, 7));
        }
    }

    private static void expectNoResults(LoopFuser x) {
        for (int array = 0; array < 4; array++) {
            for (int index = 0; index < 8; index++) {
                Check.equal("original", x.getOriginal(array, index), 0);
                Check.equal("fused", x.getFused(array, index), 0);
            }
        }
    }
}
