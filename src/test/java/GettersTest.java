import java.util.Map;

/** Promises 10 to 14. */
public final class GettersTest {
    private static final int[] FAR = {-1000, -1, Integer.MIN_VALUE, Integer.MAX_VALUE};

    public static void main(String[] args) {
        answersQueries();
        answersLoopInfo();
        answersStmtInfo();
        answersArrayInfo();
        answersCells();
        refusesWrongArguments(Programs.built());
        refusesWrongArguments(Programs.ran());
        Check.end();
    }

    private static void expect(String name, int[] got, int... due) {
        for (int n = 0; n < due.length; n++) {
            Check.equal(name + " " + n, got[n], due[n]);
        }
    }

    private static int[] queries(LoopFuser x) {
        int[] got = new int[9];
        for (int what = 0; what < got.length; what++) {
            got[what] = x.query(what);
        }
        return got;
    }

    private static int[] loop(LoopFuser x, int loop) {
        int[] got = new int[8];
        for (int what = 0; what < got.length; what++) {
            got[what] = x.loopInfo(loop, what);
        }
        return got;
    }

    private static int[] stmt(LoopFuser x, int stmt) {
        int[] got = new int[14];
        for (int what = 0; what < got.length; what++) {
            got[what] = x.stmtInfo(stmt, what);
        }
        return got;
    }

    private static void answersQueries() {
        expect("built", queries(Programs.built()), 2, 2, 0, 0, 0, 0, 4, 8, -1000);
        expect("analyzed", queries(Programs.analyzed()), 2, 2, 1, 1, 1, 0, 4, 8, -1000);
        LoopFuser x = Programs.ran();
        expect("ran", queries(x), 2, 2, 1, 1, 1, 1, 4, 8, -1000);
        x.run();
        x.run();
        expect("ran thrice", queries(x), 2, 2, 1, 1, 1, 3, 4, 8, -1000);
    }

    private static void answersLoopInfo() {
        LoopFuser x = Programs.built();
        x.addLoop(9, 2);
        expect("loop 0", loop(x, 0), 0, 3, 0, 1, -1, -1, 1000, -1000);
        expect("loop 1", loop(x, 1), 0, 3, 1, 1, -1, -1, 1000, -1000);
        expect("loop 2", loop(x, 2), 9, 2, 2, 0, -1, -1, 1000, -1000);
        Check.equal("loop 3", x.loopInfo(3, 0), -1000);
        x.analyze();
        expect("analyzed loop 0", loop(x, 0), 0, 3, 0, 1, 0, 0, 1000, -1000);
        expect("analyzed loop 1", loop(x, 1), 0, 3, 1, 1, 0, 1, 0, -1000);
        expect("analyzed loop 2", loop(x, 2), 9, 2, 2, 0, 1, 2, 1000, -1000);
        Check.equal("analyzed loop 3", x.loopInfo(3, 0), -1000);
    }

    private static void answersStmtInfo() {
        for (LoopFuser x : new LoopFuser[] {Programs.built(), Programs.ran()}) {
            expect("statement 0", stmt(x, 0), 0, 0, 2, 1, 1, 2, 0, 2, -1, 1, -1, 0, 5, -1000);
            expect("statement 1", stmt(x, 1), 1, 2, 1, -1, 7, 2, 2, 1, 1, 0, -1, 0, 3, -1000);
            Check.equal("statement 2", x.stmtInfo(2, 0), -1000);
        }
    }

    private static void answersArrayInfo() {
        LoopFuser built = Programs.built();
        LoopFuser analyzed = Programs.analyzed();
        for (int array = 0; array < 4; array++) {
            int flag = array == 2 ? 1 : 0;
            Check.equal("temp " + array, built.arrayInfo(array, 0), flag);
            Check.equal("contracted " + array, built.arrayInfo(array, 1), 0);
            Check.equal("analyzed temp " + array, analyzed.arrayInfo(array, 0), flag);
            Check.equal("analyzed contracted " + array, analyzed.arrayInfo(array, 1), flag);
        }
    }

    private static void answersCells() {
        LoopFuser x = Programs.analyzed();
        Check.equal("init", x.getInit(3, 7), -4);
        Check.equal("original before the run", x.getOriginal(3, 7), 0);
        Check.equal("fused before the run", x.getFused(3, 7), 0);
        x.run();
        Check.equal("original after the run", x.getOriginal(3, 7), -4);
        Check.equal("fused after the run", x.getFused(3, 7), -4);
        x.setInit(3, 7, 6);
        Check.equal("init set again", x.getInit(3, 7), 6);
        Check.equal("original of the last run", x.getOriginal(3, 7), -4);
        Check.equal("fused of the last run", x.getFused(3, 7), -4);
        Check.equal("contracted, original", x.getOriginal(2, 1), 5);
        Check.equal("contracted, fused", x.getFused(2, 1), 77);
    }

    private static void refusesWrongArguments(LoopFuser x) {
        for (int array = 0; array < 4; array++) {
            for (int index = 0; index < 8; index++) {
                x.setInit(array, index, 50 + index);
            }
        }
        x.run();
        Map<String, Integer> before = Check.state(x);
        for (int far : FAR) {
            Check.equal("query " + far, x.query(far), -1000);
            Check.equal("loopInfo(" + far + ", 0)", x.loopInfo(far, 0), -1000);
            Check.equal("loopInfo(0, " + far + ")", x.loopInfo(0, far), -1000);
            Check.equal("stmtInfo(" + far + ", 0)", x.stmtInfo(far, 0), -1000);
            Check.equal("stmtInfo(0, " + far + ")", x.stmtInfo(0, far), -1000);
            Check.equal("arrayInfo(" + far + ", 0)", x.arrayInfo(far, 0), -1000);
            Check.equal("arrayInfo(0, " + far + ")", x.arrayInfo(0, far), -1000);
            wrongCell(x, far, 0);
            wrongCell(x, 1, far);
        }
        Check.equal("query 8", x.query(8), -1000);
        Check.equal("loopInfo(2, 0)", x.loopInfo(2, 0), -1000);
        Check.equal("loopInfo(8, 0)", x.loopInfo(8, 0), -1000);
        Check.equal("loopInfo(0, 7)", x.loopInfo(0, 7), -1000);
        Check.equal("stmtInfo(2, 0)", x.stmtInfo(2, 0), -1000);
        Check.equal("stmtInfo(12, 0)", x.stmtInfo(12, 0), -1000);
        Check.equal("stmtInfo(0, 13)", x.stmtInfo(0, 13), -1000);
        Check.equal("arrayInfo(4, 0)", x.arrayInfo(4, 0), -1000);
        Check.equal("arrayInfo(6, 0)", x.arrayInfo(6, 0), -1000);
        Check.equal("arrayInfo(0, 2)", x.arrayInfo(0, 2), -1000);
        wrongCell(x, 4, 0);
        wrongCell(x, 6, 0);
        wrongCell(x, 0, 8);
        wrongCell(x, 0, 16);
        wrongCell(x, 1, -16);
        Check.unchanged("the getters", before, x);
    }

    private static void wrongCell(LoopFuser x, int array, int index) {
        Check.equal("getInit " + array + " " + index, x.getInit(array, index), 0);
        Check.equal("getOriginal " + array + " " + index, x.getOriginal(array, index), 0);
        Check.equal("getFused " + array + " " + index, x.getFused(array, index), 0);
    }
}
