import java.util.Map;

/** Promise 4. */
public final class AddStatementTest {
    public static void main(String[] args) {
        acceptsEveryReference();
        appendsToTheLastLoop();
        refusesWithoutLoop();
        refusesWrongArguments();
        refusesTheThirteenthStatement();
        isRefusedAfterAnalysis();
        Check.end();
    }

    private static void added(LoopFuser x, int stmt, int loop, int count, int[] call) {
        Map<String, Integer> before = Check.state(x);
        String name = "addStatement " + call[0] + " " + call[1] + " " + call[2] + " " + call[3];
        Check.equal(name, x.addStatement(call[0], call[1], call[2], call[3]), stmt);
        String s = "stmt " + stmt + " ";
        Check.changed(name, before, x,
                "query 1: " + (stmt + 1), "loop " + loop + " 3: " + count,
                s + "0: " + loop, s + "1: " + call[0],
                s + "2: " + call[1], s + "3: " + call[2], s + "4: " + call[3],
                s + "5: 0", s + "6: -1", s + "7: 0", s + "8: 0",
                s + "9: 0", s + "10: -1", s + "11: 0", s + "12: 0");
    }

    private static void acceptsEveryReference() {
        for (int coef = -2; coef <= 2; coef++) {
            for (int offset = -16; offset <= 16; offset++) {
                LoopFuser x = new LoopFuser(6, 4);
                x.addLoop(0, 3);
                int op = (offset + 16) % 3;
                added(x, 0, 0, 1, new int[] {op, (offset + 16) % 6, coef, offset});
            }
        }
    }

    private static void appendsToTheLastLoop() {
        LoopFuser x = Programs.built();
        added(x, 2, 1, 2, new int[] {LoopFuser.OP_SUB, 3, 2, 16});
        x.addLoop(4, 2);
        x.addLoop(2, 4);
        added(x, 3, 3, 1, new int[] {LoopFuser.OP_ADD, 0, -2, -16});
        added(x, 4, 3, 2, new int[] {LoopFuser.OP_MUL, 0, 0, 0});
    }

    private static void refusesWithoutLoop() {
        LoopFuser x = new LoopFuser(2, 4);
        Map<String, Integer> before = Check.state(x);
        Check.equal("addStatement without loop", x.addStatement(0, 0, 0, 0), -1);
        Check.unchanged("addStatement without loop", before, x);
    }

    private static void refusesWrongArguments() {
        int[][] calls = {
            {-1, 0, 0, 0}, {3, 0, 0, 0}, {Integer.MIN_VALUE, 0, 0, 0}, {Integer.MAX_VALUE, 0, 0, 0},
            {0, -1, 0, 0}, {0, 4, 0, 0}, {0, 5, 0, 0}, {0, 6, 0, 0},
            {0, Integer.MIN_VALUE, 0, 0}, {0, Integer.MAX_VALUE, 0, 0},
            {0, 0, -3, 0}, {0, 0, 3, 0}, {0, 0, Integer.MIN_VALUE, 0}, {0, 0, Integer.MAX_VALUE, 0},
            {0, 0, 0, -17}, {0, 0, 0, 17}, {0, 0, 0, Integer.MIN_VALUE}, {0, 0, 0, Integer.MAX_VALUE},
            {9, 9, 9, 99}};
        LoopFuser x = Programs.built();
        Map<String, Integer> before = Check.state(x);
        for (int[] c : calls) {
            String name = "addStatement " + c[0] + " " + c[1] + " " + c[2] + " " + c[3];
            Check.equal(name, x.addStatement(c[0], c[1], c[2], c[3]), -1);
            Check.unchanged(name, before, x);
        }
    }

    private static void refusesTheThirteenthStatement() {
        LoopFuser x = new LoopFuser(2, 4);
        x.addLoop(0, 3);
        for (int stmt = 0; stmt < 5; stmt++) {
            added(x, stmt, 0, stmt + 1, new int[] {stmt % 3, stmt % 2, 1, stmt});
        }
        x.addLoop(0, 3);
        for (int stmt = 5; stmt < 12; stmt++) {
            added(x, stmt, 1, stmt - 4, new int[] {stmt % 3, stmt % 2, 1, stmt});
        }
        Map<String, Integer> before = Check.state(x);
        Check.equal("the thirteenth statement", x.addStatement(0, 0, 0, 0), -1);
        Check.unchanged("the thirteenth statement", before, x);
        Check.equal("a loop after them", x.addLoop(1, 2), 2);
        Check.equal("its first statement", x.loopInfo(2, LoopFuser.L_FIRST), 12);
        Check.equal("a statement in it", x.addStatement(0, 0, 0, 0), -1);
    }

    private static void isRefusedAfterAnalysis() {
        LoopFuser x = Programs.analyzed();
        Map<String, Integer> before = Check.state(x);
        Check.equal("late addStatement", x.addStatement(0, 0, 0, 0), -1);
        Check.unchanged("late addStatement", before, x);
    }
}
