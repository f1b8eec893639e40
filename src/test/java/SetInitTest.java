import java.util.function.Supplier;

/** Promise 7. */
public final class SetInitTest {
    public static void main(String[] args) {
        Check.sentence("sets INIT[array][index] := value (any int)", SetInitTest::setsAnyValue);
        Check.sentence("in any phase and answers true", SetInitTest::setsInAnyPhase);
        Check.sentence("ORIG and FUSED do not change, nor does any other cell, flag, loop, "
                + "statement, phase or count", SetInitTest::changesNothingElse);
        Check.sentence("Refused (answers false) if array not in 0..A-1",
                SetInitTest::refusesWrongArray);
        Check.sentence("or index not in 0..N-1", SetInitTest::refusesWrongIndex);
        Check.sentence("**INIT** (set by `setInit`)", SetInitTest::isSeenByTheNextRun);
        Check.end();
    }

    private static void set(LoopFuser x, int array, int index, int value) {
        int[] before = Check.state(x);
        String cell = array + " " + index;
        Check.isTrue("setInit " + cell + " " + value, x.setInit(array, index, value));
        Check.changed("setInit " + cell, before, x, "init " + cell + ": " + value);
    }

    private static void refuse(Supplier<LoopFuser> start, int array, int index) {
        Twins.unseen("setInit " + array + " " + index, start,
                x -> x.setInit(array, index, 99) ? 1 : 0, 0);
    }

    private static void setsAnyValue() {
        for (int value : Values.any()) {
            LoopFuser x = new LoopFuser(2, 4);
            set(x, 0, 0, value);
            set(x, 1, 3, value);
            x.analyze();
            x.run();
            Check.equal("original of " + value, x.getOriginal(1, 3), value);
            Check.equal("fused of " + value, x.getFused(1, 3), value);
        }
    }

    private static void setsInAnyPhase() {
        for (Supplier<LoopFuser> state : Programs.every()) {
            LoopFuser x = state.get();
            for (int value : Values.any()) {
                Check.isTrue("setInit", x.setInit(3, 7, value));
                Check.equal("getInit", x.getInit(3, 7), value);
            }
        }
    }

    private static void changesNothingElse() {
        for (int arrays = 2; arrays <= 6; arrays++) {
            for (int length = 4; length <= 16; length++) {
                LoopFuser x = new LoopFuser(arrays, length);
                for (int array = 0; array < arrays; array++) {
                    for (int index = 0; index < length; index++) {
                        set(x, array, index, 100 * array + index + 1);
                    }
                }
            }
        }
        for (Supplier<LoopFuser> state : Programs.every()) {
            LoopFuser x = state.get();
            for (int array = 0; array < 4; array++) {
                for (int index = 0; index < 8; index++) {
                    set(x, array, index, -index);
                    set(x, array, index, -index);
                }
            }
        }
    }

    private static void refusesWrongArray() {
        for (int arrays = 2; arrays <= 6; arrays++) {
            int count = arrays;
            for (int wrong : Values.outside(0, arrays - 1)) {
                refuse(() -> new LoopFuser(count, 8), wrong, 0);
                refuse(() -> new LoopFuser(count, 8), wrong, 7);
            }
            set(new LoopFuser(arrays, 8), 0, 7, 1);
            set(new LoopFuser(arrays, 8), arrays - 1, 0, 1);
        }
        for (Supplier<LoopFuser> state : Programs.every()) {
            for (int wrong : Values.outside(0, 3)) {
                refuse(state, wrong, 0);
                refuse(state, wrong, -1);
                refuse(state, wrong, 8);
            }
        }
    }

    private static void refusesWrongIndex() {
        for (int length = 4; length <= 16; length++) {
            int count = length;
            for (int wrong : Values.outside(0, length - 1)) {
                refuse(() -> new LoopFuser(4, count), 0, wrong);
                refuse(() -> new LoopFuser(4, count), 3, wrong);
            }
            set(new LoopFuser(4, length), 3, 0, 1);
            set(new LoopFuser(4, length), 0, length - 1, 1);
        }
        for (Supplier<LoopFuser> state : Programs.every()) {
            for (int wrong : Values.outside(0, 7)) {
                refuse(state, 0, wrong);
                refuse(state, 1, wrong);
                refuse(state, 3, wrong);
            }
        }
    }

    private static void isSeenByTheNextRun() {
        LoopFuser x = Programs.ran();
        Check.equal("first run", x.getOriginal(1, 6), (10 + 6) * 3);
        x.setInit(0, 1, 100);
        Check.equal("before the second run", x.getOriginal(1, 6), (10 + 6) * 3);
        Check.equal("second run", x.run(), 0);
        Check.equal("original after it", x.getOriginal(1, 6), (100 + 6) * 3);
        Check.equal("fused after it", x.getFused(1, 6), (100 + 6) * 3);
    }
}
