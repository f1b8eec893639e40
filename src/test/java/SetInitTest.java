import java.util.Map;

/** Promise 7. */
public final class SetInitTest {
    public static void main(String[] args) {
        setsOneCellInEveryPhase();
        refusesWrongCells();
        isSeenByTheNextRun();
        Check.end();
    }

    private static void setsOneCellInEveryPhase() {
        LoopFuser[] objects = {Programs.built(), Programs.analyzed(), Programs.ran()};
        int[] values = {1, 0, -1, Integer.MIN_VALUE, Integer.MAX_VALUE};
        for (LoopFuser x : objects) {
            for (int array = 0; array < 4; array++) {
                for (int index = 0; index < 8; index++) {
                    int value = values[(array + index) % values.length];
                    Map<String, Integer> before = Check.state(x);
                    String cell = array + " " + index;
                    Check.isTrue("setInit " + cell, x.setInit(array, index, value));
                    Check.changed("setInit " + cell, before, x, "init " + cell + ": " + value);
                }
            }
        }
    }

    private static void refusesWrongCells() {
        int[][] cells = {
            {-1, 0}, {4, 0}, {5, 0}, {6, 0}, {Integer.MIN_VALUE, 0}, {Integer.MAX_VALUE, 0},
            {0, -1}, {0, 8}, {0, 15}, {0, 16}, {0, Integer.MIN_VALUE}, {0, Integer.MAX_VALUE},
            {1, -16}, {-1, 16}, {3, 8}};
        LoopFuser[] objects = {Programs.built(), Programs.analyzed(), Programs.ran()};
        for (LoopFuser x : objects) {
            Map<String, Integer> before = Check.state(x);
            for (int[] c : cells) {
                String name = "setInit " + c[0] + " " + c[1];
                Check.isFalse(name, x.setInit(c[0], c[1], 99));
                Check.unchanged(name, before, x);
            }
        }
    }

    private static void isSeenByTheNextRun() {
        LoopFuser x = Programs.ran();
        Check.equal("first run", x.getOriginal(1, 6), (10 + 6) * 3);
        x.setInit(0, 1, 100);
        Check.equal("before the second run", x.getOriginal(1, 6), (10 + 6) * 3);
        Check.equal("second run", x.run(), 0);
        Check.equal("original after it", x.getOriginal(1, 6), (100 + 6) * 3);
        Check.equal("fused after it", x.getFused(1, 6), (100 + 6) * 3);
    }
}
