import java.util.function.Supplier;
import java.util.function.ToIntFunction;

/** The section "Analysis" as to groups, joins and distances, and promise 8. */
public final class AnalyzeTest {
    private static final int A = 0;
    private static final int B = 1;
    private static final int C = 2;
    private static final int D = 3;
    private static final int E = 4;
    private static final int NONE = LoopFuser.NONE;

    public static void main(String[] args) {
        analysis();
        conflicts();
        promise();
        Check.end();
    }

    private static void analysis() {
        Check.sentence("loop 0 opens group 0; join(0) = `J_FIRST`, dist(0) = `NONE`",
                AnalyzeTest::firstLoop);
        Check.sentence("let G be the group holding loop k-1 (with every loop put into it so far)",
                AnalyzeTest::wholeGroupAndNoOther);
        Check.sentence("If loop k's lo differs from lo or its hi differs from hi: join(k) = "
                + "`J_BOUNDS`", AnalyzeTest::everyPairOfBounds);
        Check.sentence("dist(k) = `NONE`, and loop k opens a new group",
                AnalyzeTest::boundsComeFirst);
        Check.sentence("dist(k) := the least value of j - i over all conflicts of G with loop k",
                AnalyzeTest::leastOfAll);
        Check.sentence("or `NONE` if there is none", AnalyzeTest::noConflict);
        Check.sentence("If dist(k) < 0 (`NONE` is not below 0): join(k) = `J_DEPENDENCE` and loop k "
                + "opens a new group. Otherwise join(k) = `J_FUSED` and loop k is appended to G",
                AnalyzeTest::everyDistance);
        Check.sentence("Groups are numbered 0, 1, .. in order of opening", AnalyzeTest::groupNumbers);
    }

    private static void conflicts() {
        Check.sentence("lo <= i <= hi, lo <= j <= hi", AnalyzeTest::conflictsAtBothBounds);
        Check.sentence("p and q name the same array", AnalyzeTest::conflictsOfOneArray);
        Check.sentence("at least one of p, q is a write", AnalyzeTest::conflictsOfWrites);
        Check.sentence("coef(p)*i+off(p) == coef(q)*j+off(q)", AnalyzeTest::conflictsOfOneCell);
        Check.sentence("and that cell is in range", AnalyzeTest::conflictsInRange);
        Check.sentence("a choice of an access p of a statement of a loop in G, an iteration i, an "
                + "access q of a statement of loop k and an iteration j",
                AnalyzeTest::conflictsOfEveryAccess);
        Check.sentence("A **conflict** of G with loop k", AnalyzeTest::sweepsAllReferences);
    }

    private static void promise() {
        Check.sentence("`analyze()` is refused (answers -1) if the phase is `PHASE_ANALYZED`",
                AnalyzeTest::isRefusedLate);
        Check.sentence("sets `PHASE_ANALYZED` and answers the number of groups (0 if L == 0)",
                AnalyzeTest::answersTheGroups);
        Check.sentence("Every loop then has a group number, a join value and a dist value as "
                + "described", AnalyzeTest::everyLoopIsPlaced);
        Check.sentence("dist is `NONE` when no conflict exists, which includes every loop whose "
                + "bounds have lo > hi", AnalyzeTest::noDistanceWithoutIteration);
        Check.sentence("A loop with no statements has no accesses and so takes part in no conflict",
                AnalyzeTest::loopsWithoutStatements);
        Check.sentence("With L == 0 no array becomes CONTRACTED", AnalyzeTest::withoutLoops);
        Check.sentence("It changes no loop's bounds, first statement or statement count, no "
                + "statement, TEMP flag, INIT, ORIG or FUSED content, and not the run count",
                AnalyzeTest::changesOnlyTheAnalysis);
        Check.sentence("every building call (`setTemp`, `addLoop`, `addStatement`, `setArrayOperand`,"
                + " `setValueOperand`) is refused from then on, and a second `analyze` is refused",
                AnalyzeTest::buildingIsOver);
    }

    private static int[] ref(int array, int coef, int offset) {
        return Programs.ref(array, coef, offset);
    }

    private static void expectLoop(String name, LoopFuser x, int loop, int group, int join, int dist) {
        Check.equal(name + ": group of " + loop, x.loopInfo(loop, LoopFuser.L_GROUP), group);
        Check.equal(name + ": join of " + loop, x.loopInfo(loop, LoopFuser.L_JOIN), join);
        Check.equal(name + ": dist of " + loop, x.loopInfo(loop, LoopFuser.L_DIST), dist);
    }

    private static void expectSecond(String name, LoopFuser x, int dist) {
        boolean fused = dist >= 0;
        Check.equal(name + ": groups", x.analyze(), fused ? 1 : 2);
        Check.equal(name + ": Q_GROUPS", x.query(LoopFuser.Q_GROUPS), fused ? 1 : 2);
        expectLoop(name, x, 0, 0, LoopFuser.J_FIRST, NONE);
        int join = fused ? LoopFuser.J_FUSED : LoopFuser.J_DEPENDENCE;
        expectLoop(name, x, 1, fused ? 0 : 1, join, dist);
    }

    /** Loop 0 writes the first reference, loop 1 reads the second. */
    private static void flow(String name, int length, int lo, int hi, int[] p, int[] q, int dist) {
        LoopFuser x = new LoopFuser(6, length);
        Programs.copyLoop(x, lo, hi, p, ref(A, 1, 0));
        Programs.copyLoop(x, lo, hi, ref(C, 1, 0), q);
        expectSecond("flow " + name, x, dist);
    }

    private static void anti(String name, int length, int lo, int hi, int[] p, int[] q, int dist) {
        LoopFuser x = new LoopFuser(6, length);
        Programs.copyLoop(x, lo, hi, ref(C, 1, 0), p);
        Programs.copyLoop(x, lo, hi, q, ref(A, 1, 0));
        expectSecond("anti " + name, x, dist);
    }

    private static void output(String name, int length, int lo, int hi, int[] p, int[] q, int dist) {
        LoopFuser x = new LoopFuser(6, length);
        Programs.fillLoop(x, lo, hi, p);
        Programs.fillLoop(x, lo, hi, q);
        expectSecond("output " + name, x, dist);
    }

    private static void every(String name, int length, int lo, int hi, int[] p, int[] q, int dist) {
        flow(name, length, lo, hi, p, q, dist);
        anti(name, length, lo, hi, p, q, dist);
        output(name, length, lo, hi, p, q, dist);
    }

    private static void firstLoop() {
        for (int lo = 0; lo <= 15; lo++) {
            for (int hi = 0; hi <= 15; hi++) {
                LoopFuser x = new LoopFuser(2, 16);
                x.addLoop(lo, hi);
                // Conflicts inside a loop are none of the analysis.
                Programs.copy(x, ref(A, 1, 0), ref(A, 1, 1));
                Programs.copy(x, ref(A, 0, 0), ref(A, -1, 15));
                Check.equal("groups", x.analyze(), 1);
                expectLoop("alone", x, 0, 0, LoopFuser.J_FIRST, NONE);
            }
        }
        LoopFuser x = new LoopFuser(2, 4);
        x.addLoop(0, 3);
        Check.equal("groups", x.analyze(), 1);
        expectLoop("alone without statement", x, 0, 0, LoopFuser.J_FIRST, NONE);
    }

    private static void wholeGroupAndNoOther() {
        LoopFuser x = new LoopFuser(6, 16);
        Programs.copyLoop(x, 0, 7, ref(B, 1, 0), ref(A, 1, 0));
        Programs.copyLoop(x, 0, 7, ref(C, 1, 0), ref(A, 1, 0));
        Programs.copyLoop(x, 0, 7, ref(D, 1, 0), ref(B, 1, 1));
        Programs.copyLoop(x, 0, 7, ref(E, 1, 0), ref(B, 1, 1));
        Programs.copyLoop(x, 0, 7, ref(5, 1, 0), ref(D, 1, 2));
        Check.equal("whole group: groups", x.analyze(), 3);
        expectLoop("whole group", x, 0, 0, LoopFuser.J_FIRST, NONE);
        expectLoop("whole group", x, 1, 0, LoopFuser.J_FUSED, NONE);
        expectLoop("whole group", x, 2, 1, LoopFuser.J_DEPENDENCE, -1);
        expectLoop("whole group", x, 3, 1, LoopFuser.J_FUSED, NONE);
        expectLoop("whole group", x, 4, 2, LoopFuser.J_DEPENDENCE, -2);
        conflictWithTheFirstOfSeven();
        noConflictWithAGroupBefore();
    }

    private static void conflictWithTheFirstOfSeven() {
        for (int writer = 0; writer < 7; writer++) {
            LoopFuser x = new LoopFuser(6, 16);
            for (int loop = 0; loop < 7; loop++) {
                Programs.fillLoop(x, 0, 7, ref(loop == writer ? B : C, 1, 0));
            }
            Programs.copyLoop(x, 0, 7, ref(D, 1, 0), ref(B, 1, 3));
            Check.equal("one of seven: groups", x.analyze(), 2);
            expectLoop("one of seven", x, 6, 0, LoopFuser.J_FUSED, writer == 6 ? NONE : 0);
            expectLoop("one of seven", x, 7, 1, LoopFuser.J_DEPENDENCE, -3);
        }
    }

    /** Bounds or a dependence close the group that writes B, so that its writes count no more. */
    private static void noConflictWithAGroupBefore() {
        LoopFuser x = new LoopFuser(6, 16);
        Programs.fillLoop(x, 0, 7, ref(B, 1, 0));
        Programs.fillLoop(x, 0, 6, ref(C, 1, 0));
        Programs.fillLoop(x, 0, 7, ref(D, 1, 0));
        Programs.copyLoop(x, 0, 7, ref(E, 1, 0), ref(B, 1, 3));
        Check.equal("closed by bounds: groups", x.analyze(), 3);
        expectLoop("closed by bounds", x, 2, 2, LoopFuser.J_BOUNDS, NONE);
        expectLoop("closed by bounds", x, 3, 2, LoopFuser.J_FUSED, NONE);
    }

    private static void everyPairOfBounds() {
        for (int lo = 0; lo <= 15; lo++) {
            for (int hi = 0; hi <= 15; hi++) {
                for (int lo2 = 0; lo2 <= 15; lo2++) {
                    for (int hi2 = 0; hi2 <= 15; hi2++) {
                        LoopFuser x = new LoopFuser(2, 4);
                        x.addLoop(lo, hi);
                        x.addLoop(lo2, hi2);
                        boolean same = lo == lo2 && hi == hi2;
                        String name = lo + ".." + hi + " and " + lo2 + ".." + hi2;
                        Check.equal(name, x.analyze(), same ? 1 : 2);
                        int join = same ? LoopFuser.J_FUSED : LoopFuser.J_BOUNDS;
                        expectLoop(name, x, 1, same ? 0 : 1, join, NONE);
                    }
                }
            }
        }
    }

    private static void boundsComeFirst() {
        LoopFuser x = new LoopFuser(6, 16);
        int[][] bounds = {{0, 7}, {0, 6}, {1, 6}, {0, 7}, {0, 7}, {7, 0}, {7, 0}, {8, 0}};
        for (int[] b : bounds) {
            Programs.copyLoop(x, b[0], b[1], ref(B, 1, 0), ref(C, 1, 0));
        }
        Check.equal("bounds: groups", x.analyze(), 6);
        expectLoop("bounds", x, 0, 0, LoopFuser.J_FIRST, NONE);
        expectLoop("bounds", x, 1, 1, LoopFuser.J_BOUNDS, NONE);
        expectLoop("bounds", x, 2, 2, LoopFuser.J_BOUNDS, NONE);
        expectLoop("bounds", x, 3, 3, LoopFuser.J_BOUNDS, NONE);
        expectLoop("bounds", x, 4, 3, LoopFuser.J_FUSED, 0);
        expectLoop("bounds", x, 5, 4, LoopFuser.J_BOUNDS, NONE);
        expectLoop("bounds", x, 6, 4, LoopFuser.J_FUSED, NONE);
        expectLoop("bounds", x, 7, 5, LoopFuser.J_BOUNDS, NONE);
        for (int offset = -3; offset <= 3; offset++) {
            LoopFuser y = new LoopFuser(6, 16);
            Programs.fillLoop(y, 3, 9, ref(B, 1, 0));
            Programs.copyLoop(y, 3, 8, ref(C, 1, 0), ref(B, 1, offset));
            Programs.copyLoop(y, 4, 8, ref(D, 1, 0), ref(C, 1, offset));
            Check.equal("bounds with conflicts", y.analyze(), 3);
            expectLoop("other hi with conflicts", y, 1, 1, LoopFuser.J_BOUNDS, NONE);
            expectLoop("other lo with conflicts", y, 2, 2, LoopFuser.J_BOUNDS, NONE);
        }
    }

    private static void leastOfAll() {
        LoopFuser x = new LoopFuser(6, 16);
        Programs.fillLoop(x, 0, 7, ref(B, 1, 0));
        Programs.fillLoop(x, 0, 7, ref(C, 1, 0));
        x.addLoop(0, 7);
        x.addStatement(LoopFuser.OP_ADD, D, 1, 0);
        x.setArrayOperand(0, B, 1, -3);
        x.setArrayOperand(1, C, 1, -2);
        x.addStatement(LoopFuser.OP_ADD, E, 1, 0);
        x.setArrayOperand(0, C, 1, -5);
        x.addLoop(0, 7);
        x.addStatement(LoopFuser.OP_ADD, A, 1, 0);
        x.setArrayOperand(0, D, 1, -4);
        x.setArrayOperand(1, B, 1, 3);
        Check.equal("least: groups", x.analyze(), 2);
        expectLoop("least", x, 1, 0, LoopFuser.J_FUSED, NONE);
        expectLoop("least", x, 2, 0, LoopFuser.J_FUSED, 2);
        expectLoop("least", x, 3, 1, LoopFuser.J_DEPENDENCE, -3);
        every("of many iterations", 16, 0, 7, ref(B, 0, 3), ref(B, 0, 3), -7);
        every("backwards", 16, 0, 7, ref(B, 1, 0), ref(B, -1, 7), -7);
        every("doubled first", 16, 0, 7, ref(B, 2, 0), ref(B, 1, 0), 0);
        every("doubled second", 16, 0, 7, ref(B, 1, 0), ref(B, 2, 0), -3);
    }

    private static void noConflict() {
        every("eight apart", 16, 0, 7, ref(B, 1, 0), ref(B, 1, 8), NONE);
        every("two cells", 16, 0, 7, ref(B, 0, 3), ref(B, 0, 4), NONE);
        every("odd and even", 16, 0, 7, ref(B, 2, 0), ref(B, 2, 1), NONE);
        every("high bounds", 16, 12, 15, ref(B, 1, -12), ref(B, 1, -16), NONE);
        every("other array", 16, 0, 7, ref(B, 1, 0), ref(D, 1, 1), NONE);
    }

    private static void everyDistance() {
        for (int dist = -15; dist <= 15; dist++) {
            int before = dist > 0 ? dist : 0;
            int after = dist < 0 ? -dist : 0;
            every("distance " + dist, 16, 0, 15, ref(B, 1, before), ref(B, 1, after), dist);
        }
        every("distance 16", 16, 0, 15, ref(B, 1, 16), ref(B, 1, 0), NONE);
        every("distance -16", 16, 0, 15, ref(B, 1, 0), ref(B, 1, 16), NONE);
    }

    private static void groupNumbers() {
        for (int loops = 1; loops <= 8; loops++) {
            for (int cuts = 0; cuts < 1 << (loops - 1); cuts++) {
                LoopFuser x = new LoopFuser(2, 16);
                int bound = 0;
                int[] due = new int[loops];
                for (int loop = 0; loop < loops; loop++) {
                    bound += loop > 0 && (cuts >> (loop - 1) & 1) == 1 ? 1 : 0;
                    due[loop] = bound;
                    x.addLoop(0, bound);
                }
                Check.equal("groups", x.analyze(), bound + 1);
                for (int loop = 0; loop < loops; loop++) {
                    Check.equal("group", x.loopInfo(loop, LoopFuser.L_GROUP), due[loop]);
                }
            }
        }
    }

    private static void conflictsAtBothBounds() {
        for (int lo = 0; lo <= 15; lo++) {
            for (int hi = lo; hi <= 15; hi++) {
                int last = hi - lo;
                // B[i] and B[i+last] meet only at i = hi, j = lo; the other way round at lo and hi.
                every(lo + ".." + hi + " back", 16, lo, hi, ref(B, 1, -lo), ref(B, 1, last - lo),
                        -last);
                every(lo + ".." + hi + " on", 16, lo, hi, ref(B, 1, last - lo), ref(B, 1, -lo),
                        last);
                // One cell that the index reaches only just before, at and just behind the bounds.
                for (int i : new int[] {lo - 1, lo, hi, hi + 1}) {
                    boolean isReached = i >= lo && i <= hi;
                    every("at " + i, 16, lo, hi, ref(B, 1, 8 - i), ref(B, 0, 8),
                            isReached ? lo - i : NONE);
                    every("at " + i, 16, lo, hi, ref(B, 0, 8), ref(B, 1, 8 - i),
                            isReached ? i - hi : NONE);
                }
            }
        }
    }

    private static void conflictsOfOneArray() {
        for (int first = 0; first < 6; first++) {
            for (int second = 0; second < 6; second++) {
                LoopFuser x = new LoopFuser(6, 8);
                Programs.fillLoop(x, 0, 7, ref(first, 1, 0));
                Programs.fillLoop(x, 0, 7, ref(second, 1, 1));
                expectSecond(first + " and " + second, x, first == second ? -1 : NONE);
            }
        }
        // That an array is a temporary is nothing to its conflicts.
        for (int offset = -7; offset <= 7; offset++) {
            LoopFuser x = new LoopFuser(6, 8);
            for (int array = 0; array < 6; array++) {
                x.setTemp(array, true);
            }
            Programs.fillLoop(x, 0, 7, ref(B, 1, 0));
            Programs.copyLoop(x, 0, 7, ref(C, 1, 0), ref(B, 1, offset));
            expectSecond("temporary", x, -offset);
        }
    }

    private static void conflictsOfWrites() {
        flow("write and read", 16, 0, 7, ref(B, 1, 0), ref(B, 1, 1), -1);
        anti("read and write", 16, 0, 7, ref(B, 1, 0), ref(B, 1, 1), -1);
        output("write and write", 16, 0, 7, ref(B, 1, 0), ref(B, 1, 1), -1);
        for (int which = 0; which <= 1; which++) {
            for (int other = 0; other <= 1; other++) {
                LoopFuser x = new LoopFuser(6, 16);
                x.addLoop(0, 7);
                x.addStatement(LoopFuser.OP_ADD, C, 1, 0);
                x.setArrayOperand(which, B, 1, 0);
                x.addLoop(0, 7);
                x.addStatement(LoopFuser.OP_ADD, D, 1, 0);
                x.setArrayOperand(other, B, 1, 1);
                expectSecond("two reads", x, NONE);
            }
        }
    }

    private static void conflictsOfOneCell() {
        every("same cell", 16, 0, 7, ref(B, 1, 0), ref(B, 1, 0), 0);
        every("one later", 16, 0, 7, ref(B, 1, 0), ref(B, 1, -1), 1);
        every("one earlier", 16, 0, 7, ref(B, 1, 0), ref(B, 1, 1), -1);
        every("one cell, one iteration", 16, 5, 5, ref(B, 0, 3), ref(B, 0, 3), 0);
        every("twice down", 16, 0, 7, ref(B, -2, 14), ref(B, -2, 16), 1);
        every("twice down, twice up", 16, 0, 7, ref(B, -2, 14), ref(B, 2, 0), -7);
        every("down onto the last", 16, 0, 15, ref(B, -1, 15), ref(B, 0, 15), 0);
        every("up onto the last", 16, 0, 15, ref(B, 1, 0), ref(B, 0, 15), -15);
        every("high bounds that meet", 16, 12, 15, ref(B, 1, -12), ref(B, 1, -15), 3);
    }

    private static void conflictsInRange() {
        for (int length = 4; length <= 16; length++) {
            for (int cell : new int[] {-2, -1, 0, length - 1, length, length + 1}) {
                boolean isCell = cell >= 0 && cell < length;
                if (cell <= 16) {
                    every("cell " + cell + " of " + length, length, 0, 15,
                            ref(B, 0, cell), ref(B, 0, cell), isCell ? -15 : NONE);
                }
                // The same cell reached by moving references, at i = 4 and j = 9 alone.
                every("cell " + cell + " of " + length + " once", length, 4, 9,
                        ref(B, 1, cell - 4), ref(B, 1, cell - 9), isCell ? 5 : NONE);
            }
        }
        every("backwards in four", 4, 0, 7, ref(B, 1, 0), ref(B, -1, 7), 1);
        // The next array's first cell is not this one's cell N.
        every("next array", 16, 0, 3, ref(D, 0, 16), ref(E, 0, 0), NONE);
        every("array before", 16, 0, 3, ref(D, 0, 0), ref(E, 0, -16), NONE);
    }

    private static void conflictsOfEveryAccess() {
        for (int which = 0; which <= 1; which++) {
            for (int stmt = 0; stmt < 3; stmt++) {
                LoopFuser x = new LoopFuser(6, 16);
                Programs.fillLoop(x, 0, 7, ref(B, 1, 0));
                readingLoop(x, stmt, which, 2);
                expectSecond("read in statement " + stmt + " by operand " + which, x, -2);

                x = new LoopFuser(6, 16);
                readingLoop(x, stmt, which, -2);
                Programs.fillLoop(x, 0, 7, ref(B, 1, 0));
                expectSecond("read before in statement " + stmt + " by operand " + which, x, -2);
            }
        }
        for (int writer = 0; writer < 11; writer++) {
            for (int which = 0; which <= 1; which++) {
                expectTwelve(writer, which);
            }
        }
        for (int offset = -1; offset <= 1; offset++) {
            LoopFuser x = new LoopFuser(6, 16);
            Programs.copyLoop(x, 0, 7, ref(A, 1, 0), ref(A, 1, offset));
            Programs.copyLoop(x, 0, 7, ref(B, 1, 0), ref(B, 1, offset));
            expectSecond("inside a loop " + offset, x, NONE);
        }
        LoopFuser x = new LoopFuser(6, 16);
        Programs.fillLoop(x, 0, 7, ref(A, 1, 0));
        x.addLoop(0, 7);
        x.addStatement(LoopFuser.OP_ADD, B, 1, 0);
        x.setArrayOperand(0, A, 1, 1);
        x.setArrayOperand(1, A, 1, 1);
        x.setValueOperand(0, LoopFuser.OPND_CONST, 1);
        x.setValueOperand(1, LoopFuser.OPND_INDEX, 1);
        expectSecond("references replaced by values", x, NONE);
    }

    /** Eleven statements in one loop, one of which writes B[i]; the twelfth reads B[i+4]. */
    private static void expectTwelve(int writer, int which) {
        LoopFuser x = new LoopFuser(6, 16);
        x.addLoop(0, 7);
        for (int stmt = 0; stmt < 11; stmt++) {
            x.addStatement(LoopFuser.OP_ADD, stmt == writer ? B : A, 1, 0);
        }
        x.addLoop(0, 7);
        x.addStatement(LoopFuser.OP_ADD, C, 1, 0);
        x.setArrayOperand(which, B, 1, 4);
        expectSecond("statement " + writer + " of twelve", x, -4);
    }

    /** Three statements, one of which reads B[i+offset]. */
    private static void readingLoop(LoopFuser x, int reading, int which, int offset) {
        x.addLoop(0, 7);
        for (int stmt = 0; stmt < 3; stmt++) {
            x.addStatement(LoopFuser.OP_SUB, C + stmt, 1, 0);
            if (stmt == reading) {
                x.setArrayOperand(which, B, 1, offset);
            }
        }
    }

    private static void sweepsAllReferences() {
        int[][] sizes = {{16, 0, 15}, {7, 2, 9}, {4, 15, 15}, {4, 0, 1}};
        for (int[] size : sizes) {
            for (int coefs = 0; coefs < 25; coefs++) {
                for (int offset = -16; offset <= 16; offset++) {
                    for (int offset2 = -16; offset2 <= 16; offset2++) {
                        int[] p = ref(B, coefs / 5 - 2, offset);
                        int[] q = ref(B, coefs % 5 - 2, offset2);
                        LoopFuser x = new LoopFuser(2, size[0]);
                        Programs.fillLoop(x, size[1], size[2], p);
                        Programs.fillLoop(x, size[1], size[2], q);
                        expectSecond("sweep", x, leastByTable(size, p, q));
                    }
                }
            }
        }
    }

    /** Per cell, the least j of q less the greatest i of p: another way to the least distance. */
    private static int leastByTable(int[] size, int[] p, int[] q) {
        int least = NONE;
        for (int cell = 0; cell < size[0]; cell++) {
            int greatestI = -1;
            int leastJ = 99;
            for (int i = size[1]; i <= size[2]; i++) {
                greatestI = p[1] * i + p[2] == cell ? i : greatestI;
                leastJ = q[1] * i + q[2] == cell && leastJ == 99 ? i : leastJ;
            }
            if (greatestI >= 0 && leastJ < 99) {
                least = Math.min(least, leastJ - greatestI);
            }
        }
        return least;
    }

    private static void isRefusedLate() {
        for (Supplier<LoopFuser> late : Programs.late()) {
            Twins.unseen("second analyze", late, LoopFuser::analyze, -1);
        }
        LoopFuser x = Programs.built();
        Check.equal("first", x.analyze(), 1);
        for (int n = 0; n < 3; n++) {
            Check.equal("again", x.analyze(), -1);
            Check.equal("run", x.run(), 0);
        }
    }

    private static void answersTheGroups() {
        for (int groups = 0; groups <= 8; groups++) {
            LoopFuser x = new LoopFuser(2, 4);
            LoopFuser y = new LoopFuser(2, 4);
            for (int loop = 0; loop < groups; loop++) {
                x.addLoop(loop, 15);
                Programs.copyLoop(y, 0, 3, ref(A, 0, 0), ref(B, 1, 0));
            }
            Check.equal("groups", x.query(LoopFuser.Q_GROUPS), 0);
            Check.equal("by bounds", x.analyze(), groups);
            Check.equal("by bounds", x.query(LoopFuser.Q_GROUPS), groups);
            Check.equal("by bounds", x.query(LoopFuser.Q_PHASE), LoopFuser.PHASE_ANALYZED);
            Check.equal("by dependence", y.analyze(), groups);
            Check.equal("by dependence", y.query(LoopFuser.Q_GROUPS), groups);
        }
        LoopFuser x = new LoopFuser(2, 4);
        for (int loop = 0; loop < 8; loop++) {
            Programs.copyLoop(x, 0, 3, ref(A, 1, 0), ref(B, 1, 0));
        }
        Check.equal("eight in one group", x.analyze(), 1);
    }

    private static void everyLoopIsPlaced() {
        LoopFuser x = new LoopFuser(2, 4);
        LoopFuser y = new LoopFuser(2, 4);
        for (int loop = 0; loop < 8; loop++) {
            Programs.copyLoop(x, 0, 3, ref(A, 1, 0), ref(B, 1, 0));
            Programs.copyLoop(y, 0, 3, ref(A, 0, 0), ref(B, 1, 0));
        }
        for (int loop = 0; loop < 8; loop++) {
            expectLoop("before", x, loop, -1, -1, NONE);
        }
        x.analyze();
        y.analyze();
        expectLoop("in one group", x, 0, 0, LoopFuser.J_FIRST, NONE);
        expectLoop("in groups", y, 0, 0, LoopFuser.J_FIRST, NONE);
        for (int loop = 1; loop < 8; loop++) {
            expectLoop("in one group", x, loop, 0, LoopFuser.J_FUSED, 0);
            expectLoop("in groups", y, loop, loop, LoopFuser.J_DEPENDENCE, -3);
        }
    }

    private static void noDistanceWithoutIteration() {
        for (int hi = 0; hi <= 15; hi++) {
            for (int lo = hi + 1; lo <= 15; lo++) {
                every("no iteration", 16, lo, hi, ref(B, 0, 3), ref(B, 0, 3), NONE);
                every("no iteration", 16, lo, hi, ref(B, 1, 0), ref(B, 1, 1), NONE);
                every("no iteration", 16, lo, hi, ref(B, 1, 0), ref(B, 1, 0), NONE);
            }
            // One iteration is enough for a conflict.
            every("one iteration", 16, hi, hi, ref(B, 0, 3), ref(B, 0, 3), 0);
        }
    }

    private static void loopsWithoutStatements() {
        LoopFuser x = new LoopFuser(6, 16);
        x.addLoop(0, 7);
        x.addLoop(0, 7);
        Programs.fillLoop(x, 0, 7, ref(B, 1, 0));
        x.addLoop(0, 7);
        Programs.copyLoop(x, 0, 7, ref(C, 1, 0), ref(B, 1, 1));
        x.addLoop(0, 7);
        Check.equal("no statements: groups", x.analyze(), 2);
        expectLoop("no statements", x, 0, 0, LoopFuser.J_FIRST, NONE);
        expectLoop("no statements", x, 1, 0, LoopFuser.J_FUSED, NONE);
        expectLoop("no statements", x, 2, 0, LoopFuser.J_FUSED, NONE);
        expectLoop("no statements", x, 3, 0, LoopFuser.J_FUSED, NONE);
        expectLoop("no statements", x, 4, 1, LoopFuser.J_DEPENDENCE, -1);
        expectLoop("no statements", x, 5, 1, LoopFuser.J_FUSED, NONE);
        LoopFuser y = Programs.fullOfStatements();
        y.addLoop(0, 6);
        y.analyze();
        Check.equal("behind the last statement", y.loopInfo(2, LoopFuser.L_DIST), NONE);
        Check.equal("behind the last statement", y.loopInfo(2, LoopFuser.L_JOIN), LoopFuser.J_FUSED);
    }

    private static void withoutLoops() {
        for (int arrays = 2; arrays <= 6; arrays++) {
            LoopFuser x = new LoopFuser(arrays, 5);
            for (int array = 0; array < arrays; array++) {
                x.setTemp(array, true);
            }
            x.setInit(1, 1, 8);
            int[] before = Check.state(x);
            Check.equal("analyze without loops", x.analyze(), 0);
            Check.changed("analyze without loops", before, x, "query 2: 1");
        }
    }

    private static void changesOnlyTheAnalysis() {
        LoopFuser x = Programs.built();
        int[] before = Check.state(x);
        Check.equal("analyze", x.analyze(), 1);
        Check.changed("analyze", before, x,
                "query 2: 1", "query 3: 1", "query 4: 1", "array 2 1: 1",
                "loop 0 4: 0", "loop 0 5: 0", "loop 1 4: 0", "loop 1 5: 1", "loop 1 6: 0");
        LoopFuser y = new LoopFuser(4, 8);
        Programs.fillInit(y);
        y.addLoop(15, 0);
        y.addLoop(0, 15);
        before = Check.state(y);
        Check.equal("analyze", y.analyze(), 2);
        Check.changed("analyze", before, y, "query 2: 1", "query 3: 2",
                "loop 0 4: 0", "loop 0 5: 0", "loop 1 4: 1", "loop 1 5: 2");
    }

    private static void buildingIsOver() {
        for (Supplier<LoopFuser> building : Programs.building()) {
            Supplier<LoopFuser> analyzed = () -> {
                LoopFuser x = building.get();
                x.analyze();
                return x;
            };
            refused("setTemp", analyzed, x -> x.setTemp(3, true) ? 1 : 0, 0);
            refused("addLoop", analyzed, x -> x.addLoop(0, 3), -1);
            refused("addStatement", analyzed, x -> x.addStatement(0, 0, 1, 0), -1);
            refused("setArrayOperand", analyzed, x -> x.setArrayOperand(0, 0, 1, 0) ? 1 : 0, 0);
            refused("setValueOperand", analyzed, x -> x.setValueOperand(0, 0, 1) ? 1 : 0, 0);
            refused("analyze", analyzed, LoopFuser::analyze, -1);
        }
    }

    private static void refused(String name, Supplier<LoopFuser> start,
            ToIntFunction<LoopFuser> call, int due) {
        Twins.unseen(name, start, call, due);
        Twins.unseen(name + " after runs", () -> {
            LoopFuser x = start.get();
            x.run();
            x.run();
            return x;
        }, call, due);
    }
}
