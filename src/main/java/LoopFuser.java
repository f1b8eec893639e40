/** Fuses adjacent loops of a small array program where that keeps its results, and runs it. */
public final class LoopFuser {
    public static final int MIN_ARRAYS = 2;
    public static final int MAX_ARRAYS = 6;
    public static final int MIN_LENGTH = 4;
    public static final int MAX_LENGTH = 16;
    public static final int MAX_LOOPS = 8;
    public static final int MAX_STATEMENTS = 12;
    public static final int MAX_BOUND = 15;
    public static final int MAX_COEF = 2;
    public static final int MAX_OFFSET = 16;

    public static final int OP_ADD = 0;
    public static final int OP_SUB = 1;
    public static final int OP_MUL = 2;

    public static final int OPND_CONST = 0;
    public static final int OPND_INDEX = 1;
    public static final int OPND_ARRAY = 2;

    public static final int J_FIRST = 0;
    public static final int J_FUSED = 1;
    public static final int J_BOUNDS = 2;
    public static final int J_DEPENDENCE = 3;

    public static final int PHASE_BUILD = 0;
    public static final int PHASE_ANALYZED = 1;

    public static final int NONE = 1000;
    public static final int INVALID = -1000;

    public static final int Q_LOOPS = 0;
    public static final int Q_STATEMENTS = 1;
    public static final int Q_PHASE = 2;
    public static final int Q_GROUPS = 3;
    public static final int Q_CONTRACTED = 4;
    public static final int Q_RUNS = 5;
    public static final int Q_ARRAYS = 6;
    public static final int Q_LENGTH = 7;

    public static final int L_LO = 0;
    public static final int L_HI = 1;
    public static final int L_FIRST = 2;
    public static final int L_COUNT = 3;
    public static final int L_GROUP = 4;
    public static final int L_JOIN = 5;
    public static final int L_DIST = 6;

    public static final int S_LOOP = 0;
    public static final int S_OP = 1;
    public static final int S_DEST_ARRAY = 2;
    public static final int S_DEST_COEF = 3;
    public static final int S_DEST_OFFSET = 4;
    public static final int S_KIND0 = 5;
    public static final int S_ARRAY0 = 6;
    public static final int S_COEF0 = 7;
    public static final int S_VALUE0 = 8;
    public static final int S_KIND1 = 9;
    public static final int S_ARRAY1 = 10;
    public static final int S_COEF1 = 11;
    public static final int S_VALUE1 = 12;

    public static final int A_TEMP = 0;
    public static final int A_CONTRACTED = 1;

    private static final int REFUSED = -1;
    private static final int NO_ARRAY = -1;
    private static final int NO_CELL = -1;
    private static final int NO_SLOT = -1;
    private static final int NOT_ANALYZED = -1;

    private static final int MAX_CELLS = MAX_ARRAYS * MAX_LENGTH;

    // A statement fills three slots in the order of its accesses: operand 0, operand 1,
    // destination. So ascending slots are the body order of every loop and every group.
    private static final int SLOTS = 3;
    private static final int DEST = 2;
    private static final int MAX_SLOTS = MAX_STATEMENTS * SLOTS;

    private final int arrayCount;
    private final int length;
    private int phase;
    private int loopCount;
    private int statementCount;
    private int groupCount;
    private int runCount;

    private final boolean[] temp = new boolean[MAX_ARRAYS];
    private final boolean[] contracted = new boolean[MAX_ARRAYS];
    private final int[] scalar = new int[MAX_ARRAYS];

    // Cell n of array x stands at x * MAX_LENGTH + n.
    private final int[] init = new int[MAX_CELLS];
    private final int[] original = new int[MAX_CELLS];
    private final int[] fused = new int[MAX_CELLS];

    private final int[] loopLo = new int[MAX_LOOPS];
    private final int[] loopHi = new int[MAX_LOOPS];
    private final int[] loopFirst = new int[MAX_LOOPS];
    private final int[] loopSize = new int[MAX_LOOPS];
    private final int[] loopGroup = new int[MAX_LOOPS];
    private final int[] loopJoin = new int[MAX_LOOPS];
    private final int[] loopDist = new int[MAX_LOOPS];

    private final int[] groupFirstLoop = new int[MAX_LOOPS];
    private final int[] groupLoops = new int[MAX_LOOPS];

    private final int[] stmtLoop = new int[MAX_STATEMENTS];
    private final int[] stmtOp = new int[MAX_STATEMENTS];

    // slotValue is the offset of an array reference, else the operand's value.
    private final int[] slotKind = new int[MAX_SLOTS];
    private final int[] slotArray = new int[MAX_SLOTS];
    private final int[] slotCoef = new int[MAX_SLOTS];
    private final int[] slotValue = new int[MAX_SLOTS];

    public LoopFuser(int arrays, int length) {
        this.arrayCount = clamp(arrays, MIN_ARRAYS, MAX_ARRAYS);
        this.length = clamp(length, MIN_LENGTH, MAX_LENGTH);
        this.phase = PHASE_BUILD;
    }

    public boolean setTemp(int array, boolean temp) {
        if (phase != PHASE_BUILD || !isArray(array)) {
            return false;
        }
        this.temp[array] = temp;
        return true;
    }

    public int addLoop(int lo, int hi) {
        if (phase != PHASE_BUILD || loopCount >= MAX_LOOPS) {
            return REFUSED;
        }
        if (!isWithin(lo, 0, MAX_BOUND) || !isWithin(hi, 0, MAX_BOUND)) {
            return REFUSED;
        }
        int loop = loopCount;
        loopLo[loop] = lo;
        loopHi[loop] = hi;
        loopFirst[loop] = statementCount;
        loopSize[loop] = 0;
        loopGroup[loop] = NOT_ANALYZED;
        loopJoin[loop] = NOT_ANALYZED;
        loopDist[loop] = NONE;
        loopCount = loop + 1;
        return loop;
    }

    public int addStatement(int op, int destArray, int coef, int offset) {
        if (phase != PHASE_BUILD || loopCount == 0 || statementCount >= MAX_STATEMENTS) {
            return REFUSED;
        }
        if (!isWithin(op, OP_ADD, OP_MUL) || !isReference(destArray, coef, offset)) {
            return REFUSED;
        }
        int stmt = statementCount;
        int slot = stmt * SLOTS;
        stmtLoop[stmt] = loopCount - 1;
        stmtOp[stmt] = op;
        fillSlot(slot, OPND_CONST, NO_ARRAY, 0, 0);
        fillSlot(slot + 1, OPND_CONST, NO_ARRAY, 0, 0);
        fillSlot(slot + DEST, OPND_ARRAY, destArray, coef, offset);
        loopSize[loopCount - 1]++;
        statementCount = stmt + 1;
        return stmt;
    }

    public boolean setArrayOperand(int which, int array, int coef, int offset) {
        if (!canSetOperand(which) || !isReference(array, coef, offset)) {
            return false;
        }
        int slot = (statementCount - 1) * SLOTS + which;
        fillSlot(slot, OPND_ARRAY, array, coef, offset);
        return true;
    }

    public boolean setValueOperand(int which, int kind, int value) {
        if (!canSetOperand(which) || !isWithin(kind, OPND_CONST, OPND_INDEX)) {
            return false;
        }
        int slot = (statementCount - 1) * SLOTS + which;
        fillSlot(slot, kind, NO_ARRAY, 0, value);
        return true;
    }

    public boolean setInit(int array, int index, int value) {
        if (!isCell(array, index)) {
            return false;
        }
        init[array * MAX_LENGTH + index] = value;
        return true;
    }

    public int analyze() {
        if (phase != PHASE_BUILD) {
            return REFUSED;
        }
        for (int loop = 0; loop < loopCount; loop++) {
            placeLoop(loop);
        }
        for (int array = 0; array < arrayCount; array++) {
            contracted[array] = isContractible(array);
        }
        phase = PHASE_ANALYZED;
        return groupCount;
    }

    public int run() {
        if (phase != PHASE_ANALYZED) {
            return REFUSED;
        }
        runOriginal();
        runTransformed();
        runCount++;
        return countDifferences();
    }

    public int query(int what) {
        switch (what) {
            case Q_LOOPS:
                return loopCount;
            case Q_STATEMENTS:
                return statementCount;
            case Q_PHASE:
                return phase;
            case Q_GROUPS:
                return groupCount;
            case Q_CONTRACTED:
                return countContracted();
            case Q_RUNS:
                return runCount;
            case Q_ARRAYS:
                return arrayCount;
            case Q_LENGTH:
                return length;
            default:
                return INVALID;
        }
    }

    public int loopInfo(int loop, int what) {
        if (loop < 0 || loop >= loopCount) {
            return INVALID;
        }
        switch (what) {
            case L_LO:
                return loopLo[loop];
            case L_HI:
                return loopHi[loop];
            case L_FIRST:
                return loopFirst[loop];
            case L_COUNT:
                return loopSize[loop];
            case L_GROUP:
                return loopGroup[loop];
            case L_JOIN:
                return loopJoin[loop];
            case L_DIST:
                return loopDist[loop];
            default:
                return INVALID;
        }
    }

    public int stmtInfo(int stmt, int what) {
        if (stmt < 0 || stmt >= statementCount) {
            return INVALID;
        }
        int slot = stmt * SLOTS;
        switch (what) {
            case S_LOOP:
                return stmtLoop[stmt];
            case S_OP:
                return stmtOp[stmt];
            case S_DEST_ARRAY:
                return slotArray[slot + DEST];
            case S_DEST_COEF:
                return slotCoef[slot + DEST];
            case S_DEST_OFFSET:
                return slotValue[slot + DEST];
            case S_KIND0:
                return slotKind[slot];
            case S_ARRAY0:
                return slotArray[slot];
            case S_COEF0:
                return slotCoef[slot];
            case S_VALUE0:
                return slotValue[slot];
            case S_KIND1:
                return slotKind[slot + 1];
            case S_ARRAY1:
                return slotArray[slot + 1];
            case S_COEF1:
                return slotCoef[slot + 1];
            case S_VALUE1:
                return slotValue[slot + 1];
            default:
                return INVALID;
        }
    }

    public int arrayInfo(int array, int what) {
        if (!isArray(array)) {
            return INVALID;
        }
        switch (what) {
            case A_TEMP:
                return temp[array] ? 1 : 0;
            case A_CONTRACTED:
                return contracted[array] ? 1 : 0;
            default:
                return INVALID;
        }
    }

    public int getInit(int array, int index) {
        return isCell(array, index) ? init[array * MAX_LENGTH + index] : 0;
    }

    public int getOriginal(int array, int index) {
        return isCell(array, index) ? original[array * MAX_LENGTH + index] : 0;
    }

    public int getFused(int array, int index) {
        return isCell(array, index) ? fused[array * MAX_LENGTH + index] : 0;
    }

    private static int clamp(int value, int least, int greatest) {
        if (value < least) {
            return least;
        }
        return value > greatest ? greatest : value;
    }

    private static boolean isWithin(int value, int least, int greatest) {
        return value >= least && value <= greatest;
    }

    private boolean isArray(int array) {
        return array >= 0 && array < arrayCount;
    }

    private boolean isCell(int array, int index) {
        return isArray(array) && index >= 0 && index < length;
    }

    private boolean isReference(int array, int coef, int offset) {
        return isArray(array)
                && isWithin(coef, -MAX_COEF, MAX_COEF)
                && isWithin(offset, -MAX_OFFSET, MAX_OFFSET);
    }

    private boolean canSetOperand(int which) {
        return phase == PHASE_BUILD && statementCount > 0 && (which == 0 || which == 1);
    }

    private void fillSlot(int slot, int kind, int array, int coef, int value) {
        slotKind[slot] = kind;
        slotArray[slot] = array;
        slotCoef[slot] = coef;
        slotValue[slot] = value;
    }

    private boolean isAccess(int slot) {
        return slotKind[slot] == OPND_ARRAY;
    }

    private boolean isAccessOf(int array, int slot) {
        return slotKind[slot] == OPND_ARRAY && slotArray[slot] == array;
    }

    private static boolean isWrite(int slot) {
        return slot % SLOTS == DEST;
    }

    // The place in the contents, not the index in the array, so that equal places mean one cell.
    private int cellAt(int slot, int i) {
        int index = slotCoef[slot] * i + slotValue[slot];
        if (index < 0 || index >= length) {
            return NO_CELL;
        }
        return slotArray[slot] * MAX_LENGTH + index;
    }

    private void placeLoop(int loop) {
        int dist = NONE;
        int join = J_FIRST;
        if (loop > 0) {
            if (hasBoundsOf(loop, loop - 1)) {
                dist = leastDistance(loop);
                join = dist < 0 ? J_DEPENDENCE : J_FUSED;
            } else {
                join = J_BOUNDS;
            }
        }
        if (join != J_FUSED) {
            groupFirstLoop[groupCount] = loop;
            groupLoops[groupCount] = 0;
            groupCount++;
        }
        groupLoops[groupCount - 1]++;
        loopGroup[loop] = groupCount - 1;
        loopJoin[loop] = join;
        loopDist[loop] = dist;
    }

    private boolean hasBoundsOf(int loop, int other) {
        return loopLo[loop] == loopLo[other] && loopHi[loop] == loopHi[other];
    }

    // The loop follows the newest group directly, so the group's slots end where its own begin.
    private int leastDistance(int loop) {
        int groupStart = loopFirst[groupFirstLoop[groupCount - 1]] * SLOTS;
        int loopStart = loopFirst[loop] * SLOTS;
        int loopEnd = loopStart + loopSize[loop] * SLOTS;
        int least = NONE;
        for (int p = groupStart; p < loopStart; p++) {
            for (int q = loopStart; q < loopEnd; q++) {
                if (canConflict(p, q)) {
                    int dist = pairDistance(p, q, loop);
                    least = dist < least ? dist : least;
                }
            }
        }
        return least;
    }

    private boolean canConflict(int p, int q) {
        return isAccess(p) && isAccess(q)
                && slotArray[p] == slotArray[q]
                && (isWrite(p) || isWrite(q));
    }

    private int pairDistance(int p, int q, int loop) {
        int least = NONE;
        for (int i = loopLo[loop]; i <= loopHi[loop]; i++) {
            int cell = cellAt(p, i);
            for (int j = loopLo[loop]; j <= loopHi[loop]; j++) {
                if (cell != NO_CELL && cellAt(q, j) == cell && j - i < least) {
                    least = j - i;
                }
            }
        }
        return least;
    }

    private boolean isContractible(int array) {
        int first = firstAccess(array);
        if (!temp[array] || first == NO_SLOT) {
            return false;
        }
        int group = loopGroup[stmtLoop[first / SLOTS]];
        return groupLoops[group] >= 2
                && slotCoef[first] != 0
                && isWrite(first)
                && allAccessesMatch(array, first)
                && staysInRange(first);
    }

    private int firstAccess(int array) {
        for (int slot = 0; slot < statementCount * SLOTS; slot++) {
            if (isAccessOf(array, slot)) {
                return slot;
            }
        }
        return NO_SLOT;
    }

    private boolean allAccessesMatch(int array, int first) {
        for (int slot = first; slot < statementCount * SLOTS; slot++) {
            if (isAccessOf(array, slot) && !matches(slot, first)) {
                return false;
            }
        }
        return true;
    }

    private boolean matches(int slot, int other) {
        int loop = stmtLoop[slot / SLOTS];
        int otherLoop = stmtLoop[other / SLOTS];
        return loopGroup[loop] == loopGroup[otherLoop]
                && slotCoef[slot] == slotCoef[other]
                && slotValue[slot] == slotValue[other];
    }

    private boolean staysInRange(int slot) {
        int loop = stmtLoop[slot / SLOTS];
        for (int i = loopLo[loop]; i <= loopHi[loop]; i++) {
            if (cellAt(slot, i) == NO_CELL) {
                return false;
            }
        }
        return true;
    }

    private void runOriginal() {
        loadInit(original);
        for (int loop = 0; loop < loopCount; loop++) {
            int end = loopFirst[loop] + loopSize[loop];
            runBody(loop, end, original, false);
        }
    }

    private void runTransformed() {
        loadInit(fused);
        for (int array = 0; array < arrayCount; array++) {
            scalar[array] = 0;
        }
        for (int group = 0; group < groupCount; group++) {
            int firstLoop = groupFirstLoop[group];
            int lastLoop = firstLoop + groupLoops[group] - 1;
            int end = loopFirst[lastLoop] + loopSize[lastLoop];
            runBody(firstLoop, end, fused, true);
        }
    }

    private void loadInit(int[] contents) {
        for (int cell = 0; cell < MAX_CELLS; cell++) {
            contents[cell] = init[cell];
        }
    }

    // A group's statements are consecutive, so its body is its first loop's, stretched to the
    // end of its last loop.
    private void runBody(int loop, int end, int[] contents, boolean contracting) {
        for (int i = loopLo[loop]; i <= loopHi[loop]; i++) {
            for (int stmt = loopFirst[loop]; stmt < end; stmt++) {
                execute(stmt, i, contents, contracting);
            }
        }
    }

    private void execute(int stmt, int i, int[] contents, boolean contracting) {
        int slot = stmt * SLOTS;
        int left = operandValue(slot, i, contents, contracting);
        int right = operandValue(slot + 1, i, contents, contracting);
        int result = compute(stmtOp[stmt], left, right);
        store(slot + DEST, i, result, contents, contracting);
    }

    private int operandValue(int slot, int i, int[] contents, boolean contracting) {
        if (slotKind[slot] == OPND_CONST) {
            return slotValue[slot];
        }
        if (slotKind[slot] == OPND_INDEX) {
            return i + slotValue[slot];
        }
        if (contracting && contracted[slotArray[slot]]) {
            return scalar[slotArray[slot]];
        }
        int cell = cellAt(slot, i);
        return cell == NO_CELL ? 0 : contents[cell];
    }

    private static int compute(int op, int left, int right) {
        if (op == OP_ADD) {
            return left + right;
        }
        return op == OP_SUB ? left - right : left * right;
    }

    private void store(int slot, int i, int result, int[] contents, boolean contracting) {
        int array = slotArray[slot];
        if (contracting && contracted[array]) {
            scalar[array] = result;
            return;
        }
        int cell = cellAt(slot, i);
        if (cell != NO_CELL) {
            contents[cell] = result;
        }
    }

    private int countDifferences() {
        int differences = 0;
        for (int array = 0; array < arrayCount; array++) {
            for (int index = 0; index < length; index++) {
                int cell = array * MAX_LENGTH + index;
                if (!contracted[array] && original[cell] != fused[cell]) {
                    differences++;
                }
            }
        }
        return differences;
    }

    private int countContracted() {
        int count = 0;
        for (int array = 0; array < arrayCount; array++) {
            if (contracted[array]) {
                count++;
            }
        }
        return count;
    }
}
