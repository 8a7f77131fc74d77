import java.lang.reflect.Constructor;
import java.lang.reflect.Field;
import java.lang.reflect.Member;
import java.lang.reflect.Method;
import java.lang.reflect.Modifier;
import java.util.Arrays;
import java.util.Map;
import java.util.Set;
import java.util.TreeMap;
import java.util.TreeSet;

/** The public face: every member of the document, with its type and value, and no other. */
public final class FaceTest {
    private static final Set<String> METHODS = Set.of(
        "int emit[int, int, int, int]", "int run[]", "int element[int, int]", "boolean setElement[int, int, int]",
        "int scalar[int]", "int vectorLength[]", "int memory[int]", "boolean setMemory[int, int]", "void clear[]");
    private static final Map<String, Integer> CONSTANTS = new TreeMap<>();

    static {
        String[] ops = {"VADD", "VSUB", "VMUL", "VMAX", "VADDS", "VMULS", "VLOAD", "VSTORE", "VGATHER", "VSUM",
            "SSET", "SADD", "SLEN"};
        for (int op = 0; op < ops.length; op++) {
            CONSTANTS.put(ops[op], op);
        }
        CONSTANTS.put("BAD", -1);
        CONSTANTS.put("FULL", -2);
    }

    private static final Class<?> TYPE = ChainedVectorUnit.class;

    public static void main(String[] args) {
        Check.once("The public face: the class", FaceTest::type);
        Check.once("The public face: the constructor", FaceTest::constructors);
        Check.once("The public face: the methods", FaceTest::methods);
        Check.once("The public face: the constants", FaceTest::constants);
        Check.end();
    }

    private static void type() {
        Check.due("public and final", TYPE.getModifiers(), Modifier.PUBLIC | Modifier.FINAL);
        Check.due("nested classes", TYPE.getDeclaredClasses().length, 0);
    }

    private static boolean isPrivate(Member member) {
        return Modifier.isPrivate(member.getModifiers());
    }

    private static void constructors() {
        Constructor<?>[] all = TYPE.getDeclaredConstructors();
        Check.due("constructors", all.length, 1);
        Check.due("constructor is public", Modifier.isPublic(all[0].getModifiers()), true);
        Check.due("constructor takes two ints", Arrays.toString(all[0].getParameterTypes()).equals("[int, int]"), true);
    }

    private static void methods() {
        Set<String> seen = new TreeSet<>();
        Set<String> publicNames = new TreeSet<>();
        for (Method method : TYPE.getDeclaredMethods()) {
            if (!isPrivate(method)) {
                Check.due(method + " is public alone", method.getModifiers(), Modifier.PUBLIC);
                publicNames.add(method.getName());
                seen.add(method.getReturnType() + " " + method.getName() + Arrays.toString(method.getParameterTypes()));
            }
        }
        Check.due("the public methods are " + seen, seen.equals(METHODS), true);
        for (Method method : TYPE.getDeclaredMethods()) {
            boolean clash = isPrivate(method) && publicNames.contains(method.getName());
            Check.due(method + " bears a public name", clash, false);
        }
    }

    private static void constants() {
        Map<String, Integer> seen = new TreeMap<>();
        for (Field field : TYPE.getDeclaredFields()) {
            if (!isPrivate(field)) {
                Check.due(field + " is a public constant", field.getModifiers(),
                    Modifier.PUBLIC | Modifier.STATIC | Modifier.FINAL);
                Check.due(field + " is an int", field.getType() == int.class, true);
                seen.put(field.getName(), valueOf(field));
            }
        }
        Check.due("the constants are " + seen, seen.equals(CONSTANTS), true);
    }

    private static int valueOf(Field field) {
        try {
            return field.getInt(null);
        } catch (IllegalAccessException hidden) {
            throw new IllegalStateException(hidden);
        }
    }
}
