import java.util.List;
import java.util.function.Supplier;
import java.util.function.ToIntFunction;

/**
 * Two objects that go the same way, but that one of them gets one call more. Where that call
 * changes nothing at all, no call after it tells the two apart, which shows what no getter shows.
 */
final class Twins {
    private static final List<ToIntFunction<LoopFuser>> BUILD_ON = List.of(
            x -> x.setArrayOperand(0, 1, 1, 1) ? 1 : 0,
            x -> x.addStatement(LoopFuser.OP_SUB, 0, 1, 0),
            x -> x.setTemp(3, true) ? 1 : 0,
            x -> x.addLoop(0, 6),
            x -> x.addStatement(LoopFuser.OP_ADD, 3, 1, 1),
            x -> x.setValueOperand(1, LoopFuser.OPND_INDEX, 2) ? 1 : 0,
            x -> x.addLoop(0, 6),
            x -> x.addStatement(LoopFuser.OP_MUL, 1, -1, 7),
            x -> x.setArrayOperand(0, 3, 1, 1) ? 1 : 0,
            x -> x.setArrayOperand(1, 0, 2, -3) ? 1 : 0,
            x -> x.analyze(),
            x -> x.run());

    private static final List<ToIntFunction<LoopFuser>> ANALYZE = List.of(
            x -> x.analyze(),
            x -> x.run());

    private static final List<ToIntFunction<LoopFuser>> RUN = List.of(
            x -> x.run(),
            x -> x.setInit(0, 2, 31) ? 1 : 0,
            x -> x.run());

    // A fault of a refused call can hide behind the same call on the way, which does it to both
    // objects. So on one way at least a call is left out, or is not refused there.
    private static final List<List<ToIntFunction<LoopFuser>>> WAYS = List.of(BUILD_ON, ANALYZE, RUN);

    private Twins() {
    }

    /** The call gives the answer due and changes nothing at all. */
    static void unseen(String name, Supplier<LoopFuser> start, ToIntFunction<LoopFuser> call,
            int due) {
        for (List<ToIntFunction<LoopFuser>> way : WAYS) {
            LoopFuser x = start.get();
            LoopFuser twin = start.get();
            int[] before = Check.state(x);
            Check.equal(name, call.applyAsInt(x), due);
            Check.unchanged(name, before, x);
            goOn(name, way, x, twin);
        }
    }

    private static void goOn(String name, List<ToIntFunction<LoopFuser>> way, LoopFuser x,
            LoopFuser twin) {
        for (int step = 0; step < way.size(); step++) {
            String later = name + " and " + (step + 1) + " calls more";
            ToIntFunction<LoopFuser> next = way.get(step);
            Check.equal(later, next.applyAsInt(x), next.applyAsInt(twin));
            Check.same(later, Check.state(x), Check.state(twin));
        }
    }
}
