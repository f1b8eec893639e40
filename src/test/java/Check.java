import java.util.ArrayList;
import java.util.HashMap;
import java.util.List;
import java.util.Map;
import java.util.function.ToIntFunction;

/** Counts and prints what is not as due, and compares all that an object shows. */
final class Check {
    private record Shown(String name, ToIntFunction<LoopFuser> get) {
    }

    private static final List<Shown> ALL = all();
    private static final Map<String, Integer> PLACES = places();

    private static String sentence = "";
    private static int sentences = 0;
    private static int checks = 0;
    private static int wrong = 0;

    private Check() {
    }

    /** One sentence of the document and the test that fails if just this sentence is broken. */
    static void sentence(String text, Runnable test) {
        sentence = text;
        sentences++;
        int before = checks;
        try {
            test.run();
        } catch (RuntimeException thrown) {
            tell("a call threw " + thrown);
        }
        if (checks == before) {
            tell("nothing was checked");
        }
        sentence = "";
    }

    static void equal(String what, long got, long due) {
        checks++;
        if (got != due) {
            tell(what + " answered " + got + ", due is " + due);
        }
    }

    static void isTrue(String what, boolean got) {
        equal(what, got ? 1 : 0, 1);
    }

    static void isFalse(String what, boolean got) {
        equal(what, got ? 1 : 0, 0);
    }

    /** Everything the object shows, the first wrong arguments on both sides included. */
    static int[] state(LoopFuser x) {
        int[] shown = new int[ALL.size()];
        for (int place = 0; place < shown.length; place++) {
            shown[place] = ALL.get(place).get.applyAsInt(x);
        }
        return shown;
    }

    /** The object shows what it showed before, but for the changes told as "name: value". */
    static void changed(String what, int[] before, LoopFuser x, String... changes) {
        int[] due = before.clone();
        for (String change : changes) {
            int colon = change.indexOf(": ");
            int place = PLACES.get(change.substring(0, colon));
            due[place] = Integer.parseInt(change.substring(colon + 2));
        }
        same(what, state(x), due);
    }

    static void unchanged(String what, int[] before, LoopFuser x) {
        same(what, state(x), before);
    }

    static void same(String what, int[] got, int[] due) {
        checks++;
        List<String> differences = new ArrayList<>();
        for (int place = 0; place < due.length; place++) {
            if (got[place] != due[place]) {
                differences.add(ALL.get(place).name + " is " + got[place] + ", due is " + due[place]);
            }
        }
        if (!differences.isEmpty()) {
            tell(what + " leaves " + differences);
        }
    }

    private static void tell(String what) {
        wrong++;
        System.out.println(sentence.isEmpty() ? what : "\"" + sentence + "\": " + what);
    }

    static void end() {
        System.out.println(wrong + " of " + checks + " checks wrong, " + sentences + " sentences");
        if (wrong != 0) {
            System.exit(1);
        }
    }

    private static List<Shown> all() {
        List<Shown> list = new ArrayList<>();
        for (int what = -1; what <= 8; what++) {
            int w = what;
            list.add(new Shown("query " + w, x -> x.query(w)));
        }
        for (int loop = -1; loop <= 8; loop++) {
            for (int what = -1; what <= 7; what++) {
                int l = loop;
                int w = what;
                list.add(new Shown("loop " + l + " " + w, x -> x.loopInfo(l, w)));
            }
        }
        for (int stmt = -1; stmt <= 12; stmt++) {
            for (int what = -1; what <= 13; what++) {
                int s = stmt;
                int w = what;
                list.add(new Shown("stmt " + s + " " + w, x -> x.stmtInfo(s, w)));
            }
        }
        for (int array = -1; array <= 6; array++) {
            addArray(list, array);
        }
        return list;
    }

    private static void addArray(List<Shown> list, int array) {
        for (int what = -1; what <= 2; what++) {
            int w = what;
            list.add(new Shown("array " + array + " " + w, x -> x.arrayInfo(array, w)));
        }
        for (int index = -1; index <= 16; index++) {
            int n = index;
            String cell = array + " " + n;
            list.add(new Shown("init " + cell, x -> x.getInit(array, n)));
            list.add(new Shown("original " + cell, x -> x.getOriginal(array, n)));
            list.add(new Shown("fused " + cell, x -> x.getFused(array, n)));
        }
    }

    private static Map<String, Integer> places() {
        Map<String, Integer> map = new HashMap<>();
        for (int place = 0; place < ALL.size(); place++) {
            map.put(ALL.get(place).name, place);
        }
        return map;
    }
}
