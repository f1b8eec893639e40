import java.util.ArrayList;
import java.util.List;

/**
 * The document once more, built of objects and lists and as near to its words as can be, for the
 * random programs to be compared with.
 */
final class Model {
    private record Access(int array, int coef, int offset, boolean write) {
        int cell(int i) {
            return coef * i + offset;
        }
    }

    private record Operand(int kind, int array, int coef, int value) {
    }

    private static final class Statement {
        private int loop;
        private int op;
        private Access dest;
        private final Operand[] operands = {new Operand(0, -1, 0, 0), new Operand(0, -1, 0, 0)};

        private List<Access> accesses() {
            List<Access> all = new ArrayList<>();
            for (Operand operand : operands) {
                if (operand.kind == LoopFuser.OPND_ARRAY) {
                    all.add(new Access(operand.array, operand.coef, operand.value, false));
                }
            }
            all.add(dest);
            return all;
        }
    }

    private static final class Loop {
        private int lo;
        private int hi;
        private int first;
        private int group = -1;
        private int join = -1;
        private int dist = LoopFuser.NONE;
        private final List<Statement> statements = new ArrayList<>();

        private List<Access> accesses() {
            List<Access> all = new ArrayList<>();
            for (Statement statement : statements) {
                all.addAll(statement.accesses());
            }
            return all;
        }
    }

    private final int arrayCount;
    private final int length;
    private final boolean[] temp;
    private final boolean[] contracted;
    private final int[] scalars;
    private final int[][] init;
    private int[][] orig;
    private int[][] fused;
    private final List<Loop> loops = new ArrayList<>();
    private final List<Statement> statements = new ArrayList<>();
    private final List<List<Loop>> groups = new ArrayList<>();
    private int phase = LoopFuser.PHASE_BUILD;
    private int runs = 0;

    Model(int arrays, int length) {
        this.arrayCount = Math.min(6, Math.max(2, arrays));
        this.length = Math.min(16, Math.max(4, length));
        this.temp = new boolean[arrayCount];
        this.contracted = new boolean[arrayCount];
        this.scalars = new int[arrayCount];
        this.init = new int[arrayCount][this.length];
        this.orig = new int[arrayCount][this.length];
        this.fused = new int[arrayCount][this.length];
    }

    private boolean building() {
        return phase == LoopFuser.PHASE_BUILD;
    }

    private boolean wrongReference(int array, int coef, int offset) {
        return array < 0 || array >= arrayCount || coef < -2 || coef > 2 || offset < -16 || offset > 16;
    }

    private boolean inRange(int cell) {
        return 0 <= cell && cell <= length - 1;
    }

    boolean setTemp(int array, boolean value) {
        if (!building() || array < 0 || array >= arrayCount) {
            return false;
        }
        temp[array] = value;
        return true;
    }

    int addLoop(int lo, int hi) {
        if (!building() || loops.size() == 8 || lo < 0 || lo > 15 || hi < 0 || hi > 15) {
            return -1;
        }
        Loop loop = new Loop();
        loop.lo = lo;
        loop.hi = hi;
        loop.first = statements.size();
        loops.add(loop);
        return loops.size() - 1;
    }

    int addStatement(int op, int destArray, int coef, int offset) {
        if (!building() || loops.isEmpty() || statements.size() == 12 || op < 0 || op > 2
                || wrongReference(destArray, coef, offset)) {
            return -1;
        }
        Statement statement = new Statement();
        statement.loop = loops.size() - 1;
        statement.op = op;
        statement.dest = new Access(destArray, coef, offset, true);
        statements.add(statement);
        loops.get(statement.loop).statements.add(statement);
        return statements.size() - 1;
    }

    boolean setArrayOperand(int which, int array, int coef, int offset) {
        if (!building() || statements.isEmpty() || which < 0 || which > 1
                || wrongReference(array, coef, offset)) {
            return false;
        }
        Operand operand = new Operand(LoopFuser.OPND_ARRAY, array, coef, offset);
        statements.get(statements.size() - 1).operands[which] = operand;
        return true;
    }

    boolean setValueOperand(int which, int kind, int value) {
        if (!building() || statements.isEmpty() || which < 0 || which > 1 || kind < 0 || kind > 1) {
            return false;
        }
        statements.get(statements.size() - 1).operands[which] = new Operand(kind, -1, 0, value);
        return true;
    }

    boolean setInit(int array, int index, int value) {
        if (array < 0 || array >= arrayCount || !inRange(index)) {
            return false;
        }
        init[array][index] = value;
        return true;
    }

    int analyze() {
        if (!building()) {
            return -1;
        }
        for (Loop loop : loops) {
            boolean joins = false;
            if (groups.isEmpty()) {
                loop.join = LoopFuser.J_FIRST;
            } else {
                List<Loop> group = groups.get(groups.size() - 1);
                if (loop.lo != group.get(0).lo || loop.hi != group.get(0).hi) {
                    loop.join = LoopFuser.J_BOUNDS;
                } else {
                    loop.dist = distance(group, loop);
                    joins = loop.dist >= 0;
                    loop.join = joins ? LoopFuser.J_FUSED : LoopFuser.J_DEPENDENCE;
                }
            }
            if (!joins) {
                groups.add(new ArrayList<>());
            }
            groups.get(groups.size() - 1).add(loop);
            loop.group = groups.size() - 1;
        }
        for (int array = 0; array < arrayCount; array++) {
            contracted[array] = temp[array] && meetsConditions(array);
        }
        phase = LoopFuser.PHASE_ANALYZED;
        return groups.size();
    }

    private int distance(List<Loop> group, Loop loop) {
        List<Integer> distances = new ArrayList<>();
        for (Loop earlier : group) {
            for (Access p : earlier.accesses()) {
                for (Access q : loop.accesses()) {
                    for (int i = loop.lo; i <= loop.hi; i++) {
                        for (int j = loop.lo; j <= loop.hi; j++) {
                            if (p.array == q.array && (p.write || q.write)
                                    && p.cell(i) == q.cell(j) && inRange(p.cell(i))) {
                                distances.add(j - i);
                            }
                        }
                    }
                }
            }
        }
        return distances.stream().mapToInt(d -> d).min().orElse(LoopFuser.NONE);
    }

    private boolean meetsConditions(int array) {
        List<Access> accesses = new ArrayList<>();
        List<Integer> where = new ArrayList<>();
        for (Loop loop : loops) {
            for (Access access : loop.accesses()) {
                if (access.array == array) {
                    accesses.add(access);
                    where.add(loop.group);
                }
            }
        }
        if (accesses.isEmpty() || where.stream().distinct().count() != 1) {
            return false;
        }
        List<Loop> group = groups.get(where.get(0));
        Access first = accesses.get(0);
        boolean same = accesses.stream()
                .allMatch(a -> a.coef == first.coef && a.offset == first.offset);
        if (group.size() < 2 || !same || first.coef == 0 || !first.write) {
            return false;
        }
        for (int i = group.get(0).lo; i <= group.get(0).hi; i++) {
            if (!inRange(first.cell(i))) {
                return false;
            }
        }
        return true;
    }

    int run() {
        if (building()) {
            return -1;
        }
        orig = copyOfInit();
        for (Loop loop : loops) {
            execute(List.of(loop), orig, false);
        }
        fused = copyOfInit();
        java.util.Arrays.fill(scalars, 0);
        for (List<Loop> group : groups) {
            execute(group, fused, true);
        }
        runs++;
        int differences = 0;
        for (int array = 0; array < arrayCount; array++) {
            for (int index = 0; index < length; index++) {
                if (!contracted[array] && orig[array][index] != fused[array][index]) {
                    differences++;
                }
            }
        }
        return differences;
    }

    private int[][] copyOfInit() {
        int[][] copy = new int[arrayCount][];
        for (int array = 0; array < arrayCount; array++) {
            copy[array] = init[array].clone();
        }
        return copy;
    }

    private void execute(List<Loop> group, int[][] cells, boolean transformed) {
        for (int i = group.get(0).lo; i <= group.get(0).hi; i++) {
            for (Loop loop : group) {
                for (Statement s : loop.statements) {
                    int left = value(s.operands[0], i, cells, transformed);
                    int right = value(s.operands[1], i, cells, transformed);
                    int result = switch (s.op) {
                        case LoopFuser.OP_ADD -> left + right;
                        case LoopFuser.OP_SUB -> left - right;
                        default -> left * right;
                    };
                    if (transformed && contracted[s.dest.array]) {
                        scalars[s.dest.array] = result;
                    } else if (inRange(s.dest.cell(i))) {
                        cells[s.dest.array][s.dest.cell(i)] = result;
                    }
                }
            }
        }
    }

    private int value(Operand operand, int i, int[][] cells, boolean transformed) {
        if (operand.kind == LoopFuser.OPND_CONST) {
            return operand.value;
        }
        if (operand.kind == LoopFuser.OPND_INDEX) {
            return i + operand.value;
        }
        if (transformed && contracted[operand.array]) {
            return scalars[operand.array];
        }
        int cell = operand.coef * i + operand.value;
        return inRange(cell) ? cells[operand.array][cell] : 0;
    }

    int query(int what) {
        int flags = 0;
        for (boolean flag : contracted) {
            flags += flag ? 1 : 0;
        }
        int[] answers = {
            loops.size(), statements.size(), phase, groups.size(), flags, runs, arrayCount, length};
        return pick(answers, what);
    }

    int loopInfo(int number, int what) {
        if (number < 0 || number >= loops.size()) {
            return LoopFuser.INVALID;
        }
        Loop loop = loops.get(number);
        int[] answers = {
            loop.lo, loop.hi, loop.first, loop.statements.size(), loop.group, loop.join, loop.dist};
        return pick(answers, what);
    }

    int stmtInfo(int number, int what) {
        if (number < 0 || number >= statements.size()) {
            return LoopFuser.INVALID;
        }
        Statement s = statements.get(number);
        Operand a = s.operands[0];
        Operand b = s.operands[1];
        int[] answers = {
            s.loop, s.op, s.dest.array, s.dest.coef, s.dest.offset,
            a.kind, a.array, a.coef, a.value, b.kind, b.array, b.coef, b.value};
        return pick(answers, what);
    }

    int arrayInfo(int array, int what) {
        if (array < 0 || array >= arrayCount) {
            return LoopFuser.INVALID;
        }
        return pick(new int[] {temp[array] ? 1 : 0, contracted[array] ? 1 : 0}, what);
    }

    int getInit(int array, int index) {
        return cell(init, array, index);
    }

    int getOriginal(int array, int index) {
        return cell(orig, array, index);
    }

    int getFused(int array, int index) {
        return cell(fused, array, index);
    }

    private int cell(int[][] cells, int array, int index) {
        return array < 0 || array >= arrayCount || !inRange(index) ? 0 : cells[array][index];
    }

    private static int pick(int[] answers, int what) {
        return what < 0 || what >= answers.length ? LoopFuser.INVALID : answers[what];
    }
}
