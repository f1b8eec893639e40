import java.util.SplittableRandom;

/** All promises: the program and the model answer the same on many made-up runs of calls. */
public final class RandomProgramsTest {
    private static final int RUNS = 12000;
    private static final int[] EDGES = {
        0, 1, -1, 2, 3, 4, 5, 6, 7, 8, 15, 16, -16, 17, -17, Integer.MIN_VALUE, Integer.MAX_VALUE};

    private final SplittableRandom random;
    private final LoopFuser x;
    private final Model model;
    private final String name;
    private final int arrays;
    private final int length;
    // Most references of a program are alike: only then are fusion and contraction common.
    private final int coef;
    private final int offset;
    private final int spread;
    private int lo;
    private int hi;
    private int wrong = 0;

    private static final int[] joins = new int[4];
    private static int contracted = 0;
    private static int different = 0;

    private RandomProgramsTest(int seed) {
        random = new SplittableRandom(seed);
        name = "seed " + seed + ": ";
        arrays = random.nextInt(1, 8);
        length = random.nextInt(3, 18);
        x = new LoopFuser(arrays, length);
        model = new Model(arrays, length);
        coef = random.nextInt(4) == 0 ? random.nextInt(-2, 3) : 1;
        offset = coef < 0 ? random.nextInt(17) : random.nextInt(3);
        spread = random.nextInt(3, 20);
        newBounds();
    }

    public static void main(String[] args) {
        for (int seed = 0; seed < RUNS; seed++) {
            new RandomProgramsTest(seed).go();
        }
        // Without these the comparison could stay silent because nothing ever happened.
        for (int join = 0; join < 4; join++) {
            Check.isTrue("join " + join + " was met often, " + joins[join], joins[join] > RUNS / 10);
        }
        Check.isTrue("contraction was met often, " + contracted, contracted > RUNS / 20);
        Check.isTrue("contracted arrays differed often, " + different, different > RUNS / 20);
        Check.end();
    }

    private void go() {
        fillInit();
        int calls = random.nextInt(60);
        for (int call = 0; call < calls && wrong == 0; call++) {
            build();
        }
        compareAll("built");
        expect("early run", x.run(), model.run());
        expect("analyze", x.analyze(), model.analyze());
        compareAll("analyzed");
        for (int n = 0; n < 2 && wrong == 0; n++) {
            expect("run", x.run(), model.run());
            compareAll("run");
            late();
            compareAll("late calls");
        }
        count();
    }

    private void expect(String what, int got, int due) {
        Check.equal(name + what, got, due);
        wrong += got == due ? 0 : 1;
    }

    private void expect(String what, boolean got, boolean due) {
        expect(what, got ? 1 : 0, due ? 1 : 0);
    }

    private void newBounds() {
        lo = random.nextInt(16);
        hi = random.nextInt(8) == 0 ? random.nextInt(16) : Math.min(15, lo + random.nextInt(9));
        lo = random.nextInt(3) == 0 ? lo : random.nextInt(2);
    }

    private int wild(int value) {
        return random.nextInt(60) == 0 ? EDGES[random.nextInt(EDGES.length)] : value;
    }

    private int anyArray() {
        return wild(random.nextInt(Math.min(6, Math.max(2, arrays))));
    }

    private int anyCoef() {
        return wild(random.nextInt(spread) == 0 ? random.nextInt(-2, 3) : coef);
    }

    private int anyOffset() {
        int kind = random.nextInt(3 * spread);
        if (kind > 2) {
            return wild(offset);
        }
        return wild(kind < 2 ? offset + random.nextInt(-2, 3) : random.nextInt(-16, 17));
    }

    private int anyValue() {
        int kind = random.nextInt(4);
        if (kind == 0) {
            return random.nextInt();
        }
        return kind == 1 ? EDGES[random.nextInt(EDGES.length)] : random.nextInt(-9, 10);
    }

    private void build() {
        int kind = random.nextInt(10);
        if (kind < 2) {
            addLoop();
        } else if (kind < 5) {
            int op = wild(random.nextInt(3));
            int array = anyArray();
            int c = anyCoef();
            int o = anyOffset();
            expect("addStatement", x.addStatement(op, array, c, o),
                    model.addStatement(op, array, c, o));
        } else if (kind < 7) {
            setArrayOperand();
        } else if (kind < 8) {
            setValueOperand();
        } else if (kind < 9) {
            int array = anyArray();
            boolean temp = random.nextInt(4) != 0;
            expect("setTemp", x.setTemp(array, temp), model.setTemp(array, temp));
        } else {
            setInit();
        }
    }

    private void addLoop() {
        if (random.nextInt(4) == 0) {
            newBounds();
        }
        int low = wild(lo);
        int high = wild(hi);
        expect("addLoop", x.addLoop(low, high), model.addLoop(low, high));
    }

    private void setArrayOperand() {
        int which = wild(random.nextInt(2));
        int array = anyArray();
        int c = anyCoef();
        int o = anyOffset();
        expect("setArrayOperand", x.setArrayOperand(which, array, c, o),
                model.setArrayOperand(which, array, c, o));
    }

    private void setValueOperand() {
        int which = wild(random.nextInt(2));
        int kind = wild(random.nextInt(2));
        int value = anyValue();
        expect("setValueOperand", x.setValueOperand(which, kind, value),
                model.setValueOperand(which, kind, value));
    }

    private void setInit() {
        int array = anyArray();
        int index = wild(random.nextInt(Math.min(16, Math.max(4, length))));
        int value = anyValue();
        expect("setInit", x.setInit(array, index, value), model.setInit(array, index, value));
    }

    private void fillInit() {
        for (int array = 0; array < 6; array++) {
            for (int index = 0; index < 16; index++) {
                int value = random.nextInt(-99, 100);
                expect("setInit", x.setInit(array, index, value), model.setInit(array, index, value));
            }
        }
    }

    private void late() {
        expect("late setTemp", x.setTemp(0, true), false);
        expect("late addLoop", x.addLoop(0, 3), -1);
        expect("late addStatement", x.addStatement(0, 0, 1, 0), -1);
        expect("late setArrayOperand", x.setArrayOperand(0, 0, 1, 0), false);
        expect("late setValueOperand", x.setValueOperand(0, 0, 1), false);
        expect("late analyze", x.analyze(), -1);
        setInit();
    }

    private void compareAll(String when) {
        for (int what = -1; what <= 8; what++) {
            expect(when + ", query", x.query(what), model.query(what));
        }
        for (int loop = -1; loop <= 8; loop++) {
            for (int what = -1; what <= 7; what++) {
                expect(when + ", loopInfo", x.loopInfo(loop, what), model.loopInfo(loop, what));
            }
        }
        for (int stmt = -1; stmt <= 12; stmt++) {
            for (int what = -1; what <= 13; what++) {
                expect(when + ", stmtInfo", x.stmtInfo(stmt, what), model.stmtInfo(stmt, what));
            }
        }
        for (int array = -1; array <= 6; array++) {
            for (int what = -1; what <= 2; what++) {
                expect(when + ", arrayInfo", x.arrayInfo(array, what), model.arrayInfo(array, what));
            }
            compareCells(when, array);
        }
    }

    private void compareCells(String when, int array) {
        for (int index = -1; index <= 16; index++) {
            int original = x.getOriginal(array, index);
            int fused = x.getFused(array, index);
            expect(when + ", getInit", x.getInit(array, index), model.getInit(array, index));
            expect(when + ", getOriginal", original, model.getOriginal(array, index));
            expect(when + ", getFused", fused, model.getFused(array, index));
            if (x.arrayInfo(array, LoopFuser.A_CONTRACTED) == 0) {
                expect(when + ", fused as original", fused, original);
            }
        }
    }

    private void count() {
        for (int loop = 0; loop < x.query(LoopFuser.Q_LOOPS); loop++) {
            joins[x.loopInfo(loop, LoopFuser.L_JOIN)]++;
        }
        for (int array = 0; array < 6; array++) {
            if (x.arrayInfo(array, LoopFuser.A_CONTRACTED) == 1) {
                contracted++;
                different += differs(array) ? 1 : 0;
            }
        }
    }

    private boolean differs(int array) {
        for (int index = 0; index < 16; index++) {
            if (x.getOriginal(array, index) != x.getFused(array, index)) {
                return true;
            }
        }
        return false;
    }
}
