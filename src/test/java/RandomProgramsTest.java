/** All promises: the program and the model answer the same on many made-up runs of calls. */
public final class RandomProgramsTest {
    private static final int RUNS = 12000;
    private static final int[] EDGES = {
        0, 1, -1, 2, 3, 4, 5, 6, 7, 8, 15, 16, -16, 17, -17, Integer.MIN_VALUE, Integer.MAX_VALUE};

    private final Dice dice;
    private final LoopFuser x;
    private final Model model;
    private final String name;
    private final int arrays;
    private final int length;
    // Most references of a program are alike: only then are fusion and contraction common.
    private final int coef;
    private final int offset;
    private final int spread;
    private int lo;
    private int hi;
    private int wrong = 0;

    private static final int[] joins = new int[4];
    private static int contracted = 0;
    private static int different = 0;

    private RandomProgramsTest(int seed) {
        dice = new Dice(seed);
        name = "seed " + seed + ": ";
        arrays = dice.between(1, 7);
        length = dice.between(3, 17);
        x = new LoopFuser(arrays, length);
        model = new Model(arrays, length);
        coef = dice.below(4) == 0 ? dice.between(-2, 2) : 1;
        offset = coef < 0 ? dice.below(17) : dice.below(3);
        spread = dice.between(3, 19);
        newBounds();
    }

    public static void main(String[] args) {
        for (int seed = 0; seed < RUNS; seed++) {
            new RandomProgramsTest(seed).go();
        }
        // Without these the comparison could stay silent because nothing ever happened.
        for (int join = 0; join < 4; join++) {
            Check.isTrue("join " + join + " was met often, " + joins[join], joins[join] > RUNS / 10);
        }
        Check.isTrue("contraction was met often, " + contracted, contracted > RUNS / 20);
        Check.isTrue("contracted arrays differed often, " + different, different > RUNS / 20);
        Check.end();
    }

    private void go() {
        fillInit();
        int calls = dice.below(60);
        for (int call = 0; call < calls && wrong == 0; call++) {
            build();
        }
        compareAll("built");
        expect("early run", x.run(), model.run());
        expect("analyze", x.analyze(), model.analyze());
        compareAll("analyzed");
        for (int n = 0; n < 2 && wrong == 0; n++) {
            expect("run", x.run(), model.run());
            compareAll("run");
            late();
            compareAll("late calls");
        }
        count();
    }

    private void expect(String what, int got, int due) {
        Check.equal(name + what, got, due);
        wrong += got == due ? 0 : 1;
    }

    private void expect(String what, boolean got, boolean due) {
        expect(what, got ? 1 : 0, due ? 1 : 0);
    }

    private void newBounds() {
        lo = dice.below(16);
        hi = dice.below(8) == 0 ? dice.below(16) : Math.min(15, lo + dice.below(9));
        lo = dice.below(3) == 0 ? lo : dice.below(2);
    }

    private int wild(int value) {
        return dice.below(60) == 0 ? EDGES[dice.below(EDGES.length)] : value;
    }

    private int anyArray() {
        return wild(dice.below(Math.min(6, Math.max(2, arrays))));
    }

    private int anyCoef() {
        return wild(dice.below(spread) == 0 ? dice.between(-2, 2) : coef);
    }

    private int anyOffset() {
        int kind = dice.below(3 * spread);
        if (kind > 2) {
            return wild(offset);
        }
        return wild(kind < 2 ? offset + dice.between(-2, 2) : dice.between(-16, 16));
    }

    private int anyValue() {
        int kind = dice.below(4);
        if (kind == 0) {
            return dice.any();
        }
        return kind == 1 ? EDGES[dice.below(EDGES.length)] : dice.between(-9, 9);
    }

    private void build() {
        int kind = dice.below(10);
        if (kind < 2) {
            addLoop();
        } else if (kind < 5) {
            int op = wild(dice.below(3));
            int array = anyArray();
            int c = anyCoef();
            int o = anyOffset();
            expect("addStatement", x.addStatement(op, array, c, o),
                    model.addStatement(op, array, c, o));
        } else if (kind < 7) {
            setArrayOperand();
        } else if (kind < 8) {
            setValueOperand();
        } else if (kind < 9) {
            int array = anyArray();
            boolean temp = dice.below(4) != 0;
            expect("setTemp", x.setTemp(array, temp), model.setTemp(array, temp));
        } else {
            setInit();
        }
    }

    private void addLoop() {
        if (dice.below(4) == 0) {
            newBounds();
        }
        int low = wild(lo);
        int high = wild(hi);
        expect("addLoop", x.addLoop(low, high), model.addLoop(low, high));
    }

    private void setArrayOperand() {
        int which = wild(dice.below(2));
        int array = anyArray();
        int c = anyCoef();
        int o = anyOffset();
        expect("setArrayOperand", x.setArrayOperand(which, array, c, o),
                model.setArrayOperand(which, array, c, o));
    }

    private void setValueOperand() {
        int which = wild(dice.below(2));
        int kind = wild(dice.below(2));
        int value = anyValue();
        expect("setValueOperand", x.setValueOperand(which, kind, value),
                model.setValueOperand(which, kind, value));
    }

    private void setInit() {
        int array = anyArray();
        int index = wild(dice.below(Math.min(16, Math.max(4, length))));
        int value = anyValue();
        expect("setInit", x.setInit(array, index, value), model.setInit(array, index, value));
    }

    private void fillInit() {
        for (int array = 0; array < 6; array++) {
            for (int index = 0; index < 16; index++) {
                int value = dice.between(-99, 99);
                expect("setInit", x.setInit(array, index, value), model.setInit(array, index, value));
            }
        }
    }

    /** Refused by the model as well; the arguments, wrong ones among them, must not matter. */
    private void late() {
        for (int call = 0; call < 10; call++) {
            build();
        }
        expect("late analyze", x.analyze(), model.analyze());
        setInit();
    }

    private void compareAll(String when) {
        for (int what = -1; what <= 8; what++) {
            expect(when + ", query", x.query(what), model.query(what));
        }
        for (int loop = -1; loop <= 8; loop++) {
            for (int what = -1; what <= 7; what++) {
                expect(when + ", loopInfo", x.loopInfo(loop, what), model.loopInfo(loop, what));
            }
        }
        for (int stmt = -1; stmt <= 12; stmt++) {
            for (int what = -1; what <= 13; what++) {
                expect(when + ", stmtInfo", x.stmtInfo(stmt, what), model.stmtInfo(stmt, what));
            }
        }
        for (int array = -1; array <= 6; array++) {
            for (int what = -1; what <= 2; what++) {
                expect(when + ", arrayInfo", x.arrayInfo(array, what), model.arrayInfo(array, what));
            }
            compareCells(when, array);
        }
    }

    private void compareCells(String when, int array) {
        for (int index = -1; index <= 16; index++) {
            int original = x.getOriginal(array, index);
            int fused = x.getFused(array, index);
            expect(when + ", getInit", x.getInit(array, index), model.getInit(array, index));
            expect(when + ", getOriginal", original, model.getOriginal(array, index));
            expect(when + ", getFused", fused, model.getFused(array, index));
            if (x.arrayInfo(array, LoopFuser.A_CONTRACTED) == 0) {
                expect(when + ", fused as original", fused, original);
            }
        }
    }

    private void count() {
        for (int loop = 0; loop < x.query(LoopFuser.Q_LOOPS); loop++) {
            joins[x.loopInfo(loop, LoopFuser.L_JOIN)]++;
        }
        for (int array = 0; array < 6; array++) {
            if (x.arrayInfo(array, LoopFuser.A_CONTRACTED) == 1) {
                contracted++;
                different += differs(array) ? 1 : 0;
            }
        }
    }

    private boolean differs(int array) {
        for (int index = 0; index < 16; index++) {
            if (x.getOriginal(array, index) != x.getFused(array, index)) {
                return true;
            }
        }
        return false;
    }
}
