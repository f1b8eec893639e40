import java.util.ArrayList;
import java.util.List;
import java.util.Map;
import java.util.TreeMap;

/** Counts and prints what is not as due, and compares all that an object shows. */
final class Check {
    private static int checks = 0;
    private static int wrong = 0;

    private Check() {
    }

    static void equal(String what, long got, long due) {
        checks++;
        if (got != due) {
            wrong++;
            System.out.println(what + " answered " + got + ", due is " + due);
        }
    }

    static void isTrue(String what, boolean got) {
        equal(what, got ? 1 : 0, 1);
    }

    static void isFalse(String what, boolean got) {
        equal(what, got ? 1 : 0, 0);
    }

    /** Everything the object shows, wrong arguments included, under the text of the call. */
    static Map<String, Integer> state(LoopFuser x) {
        Map<String, Integer> shown = new TreeMap<>();
        for (int what = -1; what <= 8; what++) {
            shown.put("query " + what, x.query(what));
        }
        for (int loop = -1; loop <= 8; loop++) {
            for (int what = -1; what <= 7; what++) {
                shown.put("loop " + loop + " " + what, x.loopInfo(loop, what));
            }
        }
        for (int stmt = -1; stmt <= 12; stmt++) {
            for (int what = -1; what <= 13; what++) {
                shown.put("stmt " + stmt + " " + what, x.stmtInfo(stmt, what));
            }
        }
        for (int array = -1; array <= 6; array++) {
            for (int what = -1; what <= 2; what++) {
                shown.put("array " + array + " " + what, x.arrayInfo(array, what));
            }
            for (int index = -1; index <= 16; index++) {
                String cell = array + " " + index;
                shown.put("init " + cell, x.getInit(array, index));
                shown.put("original " + cell, x.getOriginal(array, index));
                shown.put("fused " + cell, x.getFused(array, index));
            }
        }
        return shown;
    }

    /** The object shows what it showed before, but for the changes told as "key: value". */
    static void changed(String what, Map<String, Integer> before, LoopFuser x, String... changes) {
        Map<String, Integer> due = new TreeMap<>(before);
        for (String change : changes) {
            int colon = change.indexOf(": ");
            String key = change.substring(0, colon);
            if (!before.containsKey(key)) {
                throw new IllegalArgumentException(change);
            }
            due.put(key, Integer.parseInt(change.substring(colon + 2)));
        }
        same(what, state(x), due);
    }

    static void unchanged(String what, Map<String, Integer> before, LoopFuser x) {
        same(what, state(x), before);
    }

    private static void same(String what, Map<String, Integer> got, Map<String, Integer> due) {
        checks++;
        if (got.equals(due)) {
            return;
        }
        wrong++;
        List<String> differences = new ArrayList<>();
        for (Map.Entry<String, Integer> entry : due.entrySet()) {
            int shown = got.get(entry.getKey());
            if (shown != entry.getValue()) {
                differences.add(entry.getKey() + " is " + shown + ", due is " + entry.getValue());
            }
        }
        System.out.println(what + " leaves " + differences);
    }

    static void end() {
        System.out.println(wrong + " of " + checks + " checks wrong");
        if (wrong != 0) {
            System.exit(1);
        }
    }
}
