import java.lang.reflect.Constructor;
import java.lang.reflect.Field;
import java.lang.reflect.Method;
import java.lang.reflect.Modifier;
import java.util.Arrays;
import java.util.List;
import java.util.TreeSet;

/** The public face, all of it and nothing besides, and promise 1: a new object. */
public final class FaceTest {
    private static final List<String> CONSTANTS = List.of("NONE", "NO_PROGRAM", "ACCESS", "METER", "DEEP", "FAILED",
            "NO_OWNER", "ILLEGAL", "UNEVEN", "NO_SLOT", "RIGHTS", "AGAIN", "LIMIT", "BAD", "RENT");
    private static final List<String> METHODS = List.of("int code[int, int, int, int, int, int]", "int wipe[int]",
            "int load[int]", "int order[int, int]", "boolean slot[int, int]", "int run[int]", "int units[]",
            "long result[]", "long log[int]", "int logged[]", "int account[int, int]", "int data[int, int]");

    public static void main(String[] args) throws ReflectiveOperationException {
        constants();
        methods();
        newObject();
        Bench.end();
    }

    private static void constants() throws ReflectiveOperationException {
        Bench.part("constants");
        int shown = 0;
        for (Field field : AccountMachine.class.getDeclaredFields()) {
            if (!Modifier.isPrivate(field.getModifiers())) {
                shown++;
                int number = CONSTANTS.indexOf(field.getName());
                Bench.due(field + "'s modifiers", field.getModifiers(),
                        Modifier.PUBLIC | Modifier.STATIC | Modifier.FINAL);
                Bench.due(field.getName(), field.getInt(null), number == 0 ? -1 : number);
            }
        }
        Bench.due("the number of constants", shown, CONSTANTS.size());
    }

    private static void methods() {
        Bench.part("methods");
        TreeSet<String> shown = new TreeSet<>();
        for (Method method : AccountMachine.class.getDeclaredMethods()) {
            if (Modifier.isPrivate(method.getModifiers())) {
                boolean shared = METHODS.stream().anyMatch(face -> face.contains(" " + method.getName() + "["));
                Bench.due(method + " bears the name of a public one", shared, false);
            } else {
                Bench.due(method + "'s modifiers", method.getModifiers(), Modifier.PUBLIC);
                shown.add(method.getReturnType() + " " + method.getName()
                        + Arrays.toString(method.getParameterTypes()));
            }
        }
        Bench.due("the methods are those of the document: " + shown, shown.equals(new TreeSet<>(METHODS)), true);
        for (Class<?> inside : AccountMachine.class.getDeclaredClasses()) {
            Bench.due(inside + " is static", Modifier.isStatic(inside.getModifiers()), true);
            Bench.due(inside + " is not public", Modifier.isPublic(inside.getModifiers()), false);
        }
        Constructor<?>[] constructors = AccountMachine.class.getDeclaredConstructors();
        Bench.due("the number of constructors", constructors.length, 1);
        Bench.due("its parameters", constructors[0].getParameterCount(), 0);
        Bench.due("its modifiers", constructors[0].getModifiers(), Modifier.PUBLIC);
        Bench.due("the class's modifiers", AccountMachine.class.getModifiers(), Modifier.PUBLIC | Modifier.FINAL);
    }

    private static void newObject() {
        Bench.part("promise 1");
        Bench b = new Bench();
        for (int a = 0; a < 8; a++) {
            b.dueAccount(a, 100, 0, 0);
            for (int i = 0; i < 4; i++) {
                Bench.due("data(" + a + ", " + i + ")", b.x.data(a, i), 0);
            }
        }
        for (int p = 1; p <= 3; p++) {
            Bench.due("load(" + p + ") without code", b.x.load(p), 1);
            Bench.due("wipe(" + p + ") without code", b.x.wipe(p), 0);
        }
        Bench.due("run(10) without orders", b.x.run(10), AccountMachine.NONE);
        Bench.due("slot(0, 0) without orders", b.x.slot(0, 0), false);
        Bench.due("units()", b.x.units(), 0);
        Bench.due("result()", b.x.result(), 0);
        b.dueLog();
        // An object shares nothing with others.
        Bench.due("a transfer", b.run(2, 0, 40, 0, 3, 1, 2), 0);
        b.program(1, "END");
        Bench other = new Bench();
        other.dueAccount(0, 100, 0, 0);
        Bench.due("load(1) on another object", other.x.load(1), 1);
    }
}
