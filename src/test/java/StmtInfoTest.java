import java.util.function.Supplier;

/** Promise 12. */
public final class StmtInfoTest {
    public static void main(String[] args) {
        Check.sentence("answers, for stmt in 0..S-1, changing nothing", StmtInfoTest::changesNothing);
        Check.sentence("`S_LOOP`: its loop", StmtInfoTest::loop);
        Check.sentence("`S_OP`: its op", StmtInfoTest::op);
        Check.sentence("`S_DEST_ARRAY`, `S_DEST_COEF`, `S_DEST_OFFSET`: its destination array, coef "
                + "and offset", StmtInfoTest::destination);
        Check.sentence("KIND is the operand kind; ARRAY is the array (-1 unless `OPND_ARRAY`); COEF is"
                + " the coef (0 unless `OPND_ARRAY`)", StmtInfoTest::operands);
        Check.sentence("VALUE is the offset for `OPND_ARRAY`, else the value", StmtInfoTest::values);
        Check.sentence("stmt not in 0..S-1", StmtInfoTest::otherStatements);
        Check.sentence("or any other `what`: `INVALID`", StmtInfoTest::otherSelectors);
        Check.end();
    }

    private static void expect(String name, LoopFuser x, int stmt, int from, int... due) {
        for (int n = 0; n < due.length; n++) {
            Check.equal(name + ", field " + (from + n), x.stmtInfo(stmt, from + n), due[n]);
        }
    }

    private static LoopFuser withLoop(int arrays) {
        LoopFuser x = new LoopFuser(arrays, 8);
        x.addLoop(0, 3);
        return x;
    }

    private static void changesNothing() {
        for (Supplier<LoopFuser> state : Programs.every()) {
            for (int what = 0; what <= 12; what++) {
                int w = what;
                int last = state.get().query(LoopFuser.Q_STATEMENTS) - 1;
                for (int stmt : new int[] {0, last}) {
                    int due = state.get().stmtInfo(stmt, w);
                    Twins.unseen("stmtInfo", state, x -> x.stmtInfo(stmt, w), due);
                }
            }
        }
    }

    private static void loop() {
        LoopFuser x = Programs.full();
        for (int n = 0; n < 3; n++) {
            for (int stmt = 0; stmt < 12; stmt++) {
                int due = Math.min(stmt, 7);
                Check.equal("loop of " + stmt, x.stmtInfo(stmt, LoopFuser.S_LOOP), due);
            }
            x.analyze();
            x.run();
        }
    }

    private static void op() {
        LoopFuser x = withLoop(2);
        for (int stmt = 0; stmt < 12; stmt++) {
            x.addStatement((stmt + 1) % 3, 0, 1, 0);
        }
        for (int n = 0; n < 3; n++) {
            for (int stmt = 0; stmt < 12; stmt++) {
                Check.equal("op of " + stmt, x.stmtInfo(stmt, LoopFuser.S_OP), (stmt + 1) % 3);
            }
            x.analyze();
            x.run();
        }
    }

    private static void destination() {
        for (int array = 0; array < 6; array++) {
            for (int coef = -2; coef <= 2; coef++) {
                for (int offset = -16; offset <= 16; offset++) {
                    LoopFuser x = withLoop(6);
                    x.addStatement(0, array, coef, offset);
                    x.addStatement(0, 5 - array, -coef, -offset);
                    for (int n = 0; n < 2; n++) {
                        expect("first", x, 0, LoopFuser.S_DEST_ARRAY, array, coef, offset);
                        expect("second", x, 1, LoopFuser.S_DEST_ARRAY, 5 - array, -coef, -offset);
                        x.analyze();
                        x.run();
                    }
                }
            }
        }
    }

    private static void operands() {
        for (LoopFuser x : new LoopFuser[] {Programs.built(), Programs.ran()}) {
            expect("statement 0", x, 0, 0, 0, 0, 2, 1, 1, 2, 0, 2, -1, 1, -1, 0, 5, -1000);
            expect("statement 1", x, 1, 0, 1, 2, 1, -1, 7, 2, 2, 1, 1, 0, -1, 0, 3, -1000);
        }
        for (int array = 0; array < 6; array++) {
            for (int coef = -2; coef <= 2; coef++) {
                LoopFuser x = withLoop(6);
                x.addStatement(0, 0, 1, 0);
                expect("new", x, 0, LoopFuser.S_KIND0, 0, -1, 0, 0, 0, -1, 0, 0);
                x.setArrayOperand(0, array, coef, 3);
                expect("first", x, 0, LoopFuser.S_KIND0, 2, array, coef, 3, 0, -1, 0, 0);
                x.setArrayOperand(1, 5 - array, -coef, 4);
                expect("both", x, 0, LoopFuser.S_KIND0, 2, array, coef, 3, 2, 5 - array, -coef, 4);
                x.setValueOperand(0, LoopFuser.OPND_INDEX, 5);
                expect("second", x, 0, LoopFuser.S_KIND0, 1, -1, 0, 5, 2, 5 - array, -coef, 4);
                x.setValueOperand(1, LoopFuser.OPND_CONST, 6);
                expect("none", x, 0, LoopFuser.S_KIND0, 1, -1, 0, 5, 0, -1, 0, 6);
            }
        }
    }

    private static void values() {
        for (int which = 0; which <= 1; which++) {
            int field = which == 0 ? LoopFuser.S_VALUE0 : LoopFuser.S_VALUE1;
            LoopFuser x = withLoop(2);
            x.addStatement(0, 0, 1, 0);
            for (int offset = -16; offset <= 16; offset++) {
                x.setArrayOperand(which, 1, 2, offset);
                Check.equal("offset", x.stmtInfo(0, field), offset);
            }
            for (int value : Values.any()) {
                x.setValueOperand(which, LoopFuser.OPND_CONST, value);
                Check.equal("constant", x.stmtInfo(0, field), value);
                x.setValueOperand(which, LoopFuser.OPND_CONST, 0);
                x.setValueOperand(which, LoopFuser.OPND_INDEX, value);
                Check.equal("index", x.stmtInfo(0, field), value);
            }
        }
    }

    private static void otherStatements() {
        for (Supplier<LoopFuser> state : Programs.every()) {
            int statements = state.get().query(LoopFuser.Q_STATEMENTS);
            for (int what = 0; what <= 12; what++) {
                int w = what;
                for (int stmt : Values.outside(0, statements - 1)) {
                    Twins.unseen("stmtInfo(" + stmt + ", " + w + ")", state,
                            x -> x.stmtInfo(stmt, w), LoopFuser.INVALID);
                }
            }
        }
        LoopFuser x = withLoop(2);
        for (int statements = 0; statements <= 12; statements++) {
            for (int stmt = -1; stmt <= 12; stmt++) {
                int due = stmt >= 0 && stmt < statements ? 1 : LoopFuser.INVALID;
                Check.equal("statement " + stmt + " of " + statements,
                        x.stmtInfo(stmt, LoopFuser.S_DEST_ARRAY), due);
            }
            x.addStatement(0, 1, 0, 0);
        }
    }

    private static void otherSelectors() {
        for (Supplier<LoopFuser> state : Programs.every()) {
            int last = state.get().query(LoopFuser.Q_STATEMENTS) - 1;
            for (int what : Values.outside(0, 12)) {
                for (int stmt : new int[] {0, last, last + 1}) {
                    Twins.unseen("stmtInfo(" + stmt + ", " + what + ")", state,
                            x -> x.stmtInfo(stmt, what), LoopFuser.INVALID);
                }
            }
        }
    }
}
