import java.lang.reflect.Constructor;
import java.lang.reflect.Field;
import java.lang.reflect.Member;
import java.lang.reflect.Method;
import java.lang.reflect.Modifier;
import java.util.Arrays;
import java.util.Set;
import java.util.TreeSet;

/** The public face: the members of the document, and no other that is not private. */
public final class FaceTest {
    private static final String[] METHODS = {
        "boolean setTemp[int, boolean]", "int addLoop[int, int]",
        "int addStatement[int, int, int, int]", "boolean setArrayOperand[int, int, int, int]",
        "boolean setValueOperand[int, int, int]", "boolean setInit[int, int, int]",
        "int analyze[]", "int run[]", "int query[int]", "int loopInfo[int, int]",
        "int stmtInfo[int, int]", "int arrayInfo[int, int]", "int getInit[int, int]",
        "int getOriginal[int, int]", "int getFused[int, int]"};

    private static final String[] CONSTANTS = {
        "MIN_ARRAYS=2", "MAX_ARRAYS=6", "MIN_LENGTH=4", "MAX_LENGTH=16", "MAX_LOOPS=8",
        "MAX_STATEMENTS=12", "MAX_BOUND=15", "MAX_COEF=2", "MAX_OFFSET=16",
        "OP_ADD=0", "OP_SUB=1", "OP_MUL=2", "OPND_CONST=0", "OPND_INDEX=1", "OPND_ARRAY=2",
        "J_FIRST=0", "J_FUSED=1", "J_BOUNDS=2", "J_DEPENDENCE=3",
        "PHASE_BUILD=0", "PHASE_ANALYZED=1", "NONE=1000", "INVALID=-1000",
        "Q_LOOPS=0", "Q_STATEMENTS=1", "Q_PHASE=2", "Q_GROUPS=3", "Q_CONTRACTED=4", "Q_RUNS=5",
        "Q_ARRAYS=6", "Q_LENGTH=7",
        "L_LO=0", "L_HI=1", "L_FIRST=2", "L_COUNT=3", "L_GROUP=4", "L_JOIN=5", "L_DIST=6",
        "S_LOOP=0", "S_OP=1", "S_DEST_ARRAY=2", "S_DEST_COEF=3", "S_DEST_OFFSET=4",
        "S_KIND0=5", "S_ARRAY0=6", "S_COEF0=7", "S_VALUE0=8",
        "S_KIND1=9", "S_ARRAY1=10", "S_COEF1=11", "S_VALUE1=12", "A_TEMP=0", "A_CONTRACTED=1"};

    public static void main(String[] args) {
        Check.sentence("public final class LoopFuser", FaceTest::theClass);
        Check.sentence("The public face", FaceTest::methods);
        Check.sentence("each declared `public static final int` in the class", FaceTest::constants);
        Check.sentence("public LoopFuser(int arrays, int length)", FaceTest::constructors);
        Check.end();
    }

    private static void theClass() {
        int modifiers = LoopFuser.class.getModifiers();
        Check.isTrue("public final", Modifier.isPublic(modifiers) && Modifier.isFinal(modifiers));
        Check.equal("nested classes", LoopFuser.class.getDeclaredClasses().length, 0);
    }

    private static boolean isHidden(Member member) {
        return Modifier.isPrivate(member.getModifiers());
    }

    private static void same(String what, Set<String> got, String[] due) {
        Set<String> all = new TreeSet<>(Arrays.asList(due));
        if (!got.equals(all)) {
            System.out.println(what + " are " + got + ", due are " + all);
        }
        Check.isTrue(what, got.equals(all));
    }

    private static void methods() {
        Set<String> shown = new TreeSet<>();
        Set<String> shownNames = new TreeSet<>();
        for (Method method : LoopFuser.class.getDeclaredMethods()) {
            if (!isHidden(method)) {
                Check.isTrue(method + " is public", Modifier.isPublic(method.getModifiers()));
                Check.isFalse(method + " is static", Modifier.isStatic(method.getModifiers()));
                shown.add(method.getReturnType() + " " + method.getName()
                        + Arrays.toString(method.getParameterTypes()));
                shownNames.add(method.getName());
            }
        }
        same("methods", shown, METHODS);
        for (Method method : LoopFuser.class.getDeclaredMethods()) {
            boolean clashes = isHidden(method) && shownNames.contains(method.getName());
            Check.isFalse(method + " bears a public name", clashes);
        }
    }

    private static int value(Field field) {
        try {
            return field.getInt(null);
        } catch (IllegalAccessException hidden) {
            throw new IllegalStateException(hidden);
        }
    }

    private static void constants() {
        Set<String> shown = new TreeSet<>();
        for (Field field : LoopFuser.class.getDeclaredFields()) {
            if (!isHidden(field)) {
                int due = Modifier.PUBLIC | Modifier.STATIC | Modifier.FINAL;
                Check.equal("modifiers of " + field, field.getModifiers(), due);
                Check.isTrue(field + " is int", field.getType() == int.class);
                shown.add(field.getName() + "=" + value(field));
            }
        }
        same("constants", shown, CONSTANTS);
    }

    private static void constructors() {
        Constructor<?>[] all = LoopFuser.class.getDeclaredConstructors();
        Check.equal("constructors", all.length, 1);
        Check.isTrue("public constructor", Modifier.isPublic(all[0].getModifiers()));
        Check.isTrue("its parameters",
                Arrays.equals(all[0].getParameterTypes(), new Class<?>[] {int.class, int.class}));
    }
}
