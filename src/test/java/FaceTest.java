import java.lang.reflect.Constructor;
import java.lang.reflect.Field;
import java.lang.reflect.Method;
import java.lang.reflect.Modifier;
import java.util.Arrays;
import java.util.Set;
import java.util.TreeSet;

/** The public face: exactly the document's constants, constructor and methods. */
final class FaceTest {
    private static final Check CHECK = new Check("FaceTest");
    private static final String[] METHODS = {
        "int reset(int)", "int addEdge(int, int)", "int removeEdge(int)", "int setSink(int)",
        "int type(char)", "int clearText()", "int readGraph()", "int value(int)", "int degree(int)",
        "int edge(int, boolean)", "int setChips(int, int)", "int chips(int)", "int fire(int)",
        "int stabilize()", "int firings(int)", "int reduce()", "int makeRecurrent()", "int kind()",
        "int burnt(int)", "int undo()", "int keep(int)", "int load(int)", "int add(int)",
        "int isSameClass(int)", "long treeCount()", "int identity(int)", "int order()",
        "long factor(int)", "int level()", "int levelCount(int)", "int tree()", "int takeTree(int)",
        "int treeAt(int)"};
    private static final String[] CONSTANTS = {
        "int UNKNOWN = -10001", "int BAD_VALUE = -10002", "int NOT_CONNECTED = -10003",
        "int NOT_POSSIBLE = -10004", "int FULL = -10005", "int BAD_TEXT = -10006", "int NONE = -10007",
        "long NO_VALUE = -9223372036854775808"};

    public static void main(String[] arguments) throws ReflectiveOperationException {
        CHECK.that("public and final", Modifier.isPublic(ChipGame.class.getModifiers())
            && Modifier.isFinal(ChipGame.class.getModifiers()));
        constants();
        methods();
        constructors();
        nestedClasses();
        CHECK.end();
    }

    private static void same(String what, String[] want, Set<String> got) {
        Set<String> due = new TreeSet<>(Arrays.asList(want));
        CHECK.that(what + " are " + got, due.equals(got));
    }

    private static void constants() throws ReflectiveOperationException {
        Set<String> found = new TreeSet<>();
        for (Field field : ChipGame.class.getDeclaredFields()) {
            if (!Modifier.isPrivate(field.getModifiers())) {
                CHECK.due(field.getName(), field.getModifiers(),
                    Modifier.PUBLIC | Modifier.STATIC | Modifier.FINAL);
                found.add(field.getType() + " " + field.getName() + " = " + field.get(null));
            }
        }
        same("constants", CONSTANTS, found);
    }

    private static void methods() {
        Set<String> found = new TreeSet<>();
        Set<String> publicNames = new TreeSet<>();
        for (Method method : ChipGame.class.getDeclaredMethods()) {
            if (!Modifier.isPrivate(method.getModifiers())) {
                CHECK.due(method.getName(), method.getModifiers(), Modifier.PUBLIC);
                found.add(method.getReturnType() + " " + method.getName()
                    + Arrays.toString(method.getParameterTypes()).replace('[', '(').replace(']', ')'));
                publicNames.add(method.getName());
            }
        }
        same("methods", METHODS, found);
        for (Method method : ChipGame.class.getDeclaredMethods()) {
            CHECK.that("no private namesake of " + method.getName(),
                !Modifier.isPrivate(method.getModifiers()) || !publicNames.contains(method.getName()));
        }
    }

    private static void constructors() {
        Constructor<?>[] all = ChipGame.class.getDeclaredConstructors();
        CHECK.due("constructors", all.length, 1);
        CHECK.that("public", Modifier.isPublic(all[0].getModifiers()));
        CHECK.due("parameters", all[0].getParameterCount(), 0);
    }

    private static void nestedClasses() {
        for (Class<?> nested : ChipGame.class.getDeclaredClasses()) {
            int modifiers = nested.getModifiers();
            CHECK.that(nested + " is static", Modifier.isStatic(modifiers));
            CHECK.that(nested + " is hidden", !Modifier.isPublic(modifiers) && !Modifier.isProtected(modifiers));
        }
        CHECK.that("some twelve classes", ChipGame.class.getDeclaredClasses().length <= 12);
    }
}
