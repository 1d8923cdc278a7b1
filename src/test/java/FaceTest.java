import java.lang.reflect.Constructor;
import java.lang.reflect.Field;
import java.lang.reflect.Method;
import java.lang.reflect.Modifier;
import java.util.Arrays;
import java.util.Set;
import java.util.TreeSet;
import java.util.stream.Collectors;

/** The document's face, whole and with nothing beside it (rules 1 and 5 of the language). */
final class FaceTest {
    private static final Check CHECK = new Check("FaceTest");
    private static final String[] FACE = {
        "int sites()",
        "int begin(int, int, int) throws IllegalArgumentException",
        "boolean increase(int, int) throws IndexOutOfBoundsException, IllegalArgumentException",
        "boolean decrease(int, int) throws IndexOutOfBoundsException, IllegalArgumentException",
        "int transfer(int, int, int, int)"
            + " throws IndexOutOfBoundsException, IllegalArgumentException, IllegalStateException",
        "int lend(int, int, int, int, int)"
            + " throws IndexOutOfBoundsException, IllegalArgumentException, IllegalStateException",
        "int rebalance(int, int) throws IndexOutOfBoundsException",
        "int pass(int) throws IllegalArgumentException, IllegalStateException",
        "int send(int, int) throws IndexOutOfBoundsException, IllegalArgumentException, IllegalStateException",
        "int deliver(int) throws IndexOutOfBoundsException",
        "int lose(int) throws IndexOutOfBoundsException",
        "int repeat(int) throws IndexOutOfBoundsException, IllegalStateException",
        "int messages()",
        "int message(int, int) throws IndexOutOfBoundsException",
        "int time()",
        "int value()",
        "int known(int) throws IndexOutOfBoundsException",
        "int own(int, int) throws IndexOutOfBoundsException",
        "int available(int, int) throws IndexOutOfBoundsException",
        "int dormant(int) throws IndexOutOfBoundsException",
        "int demand(int, int, int) throws IndexOutOfBoundsException",
        "int version(int, int) throws IndexOutOfBoundsException",
        "int copyTime(int, int) throws IndexOutOfBoundsException",
        "int loans()",
        "int loan(int, int) throws IndexOutOfBoundsException",
        "int helpers(int, int, int) throws IndexOutOfBoundsException, IllegalArgumentException",
        "int type(int) throws IllegalArgumentException, IllegalStateException",
        "int clearText()",
        "int runScript()",
        "int undo() throws IllegalStateException",
        "long fingerprint()",
    };

    public static void main(String[] args) {
        Class<?> face = EscrowCounter.class;
        CHECK.same("the class", Modifier.toString(face.getModifiers()), "public final");
        methods(face);
        constructors(face);
        fields(face);
        for (Class<?> inside : face.getDeclaredClasses()) {
            CHECK.note(Modifier.isStatic(inside.getModifiers()), inside + " is not static");
            CHECK.note(!Modifier.isPublic(inside.getModifiers()), inside + " is public");
            CHECK.note(!Modifier.isProtected(inside.getModifiers()), inside + " is protected");
            staticFields(inside);
        }
        CHECK.note(face.getDeclaredClasses().length < 12, "too many classes inside");
        CHECK.end();
    }

    private static void methods(Class<?> face) {
        Set<String> due = new TreeSet<>(Arrays.asList(FACE));
        Set<String> got = new TreeSet<>();
        Set<String> names = new TreeSet<>();
        for (Method method : face.getDeclaredMethods()) {
            if (Modifier.isPublic(method.getModifiers())) {
                got.add(signature(method));
                names.add(method.getName());
            }
        }
        CHECK.same("the public methods", got.toString(), due.toString());
        for (Method method : face.getDeclaredMethods()) {
            boolean isPublic = Modifier.isPublic(method.getModifiers());
            CHECK.note(isPublic || Modifier.isPrivate(method.getModifiers()), method + " is neither");
            CHECK.note(isPublic || !names.contains(method.getName()), method + " has the name of a public one");
            CHECK.note(!isPublic || !Modifier.isStatic(method.getModifiers()), method + " is static");
        }
    }

    private static String signature(Method method) {
        String thrown = list(method.getExceptionTypes());
        return method.getReturnType().getSimpleName() + " " + method.getName() + "("
                + list(method.getParameterTypes()) + ")" + (thrown.isEmpty() ? "" : " throws " + thrown);
    }

    private static String list(Class<?>[] types) {
        return Arrays.stream(types).map(Class::getSimpleName).collect(Collectors.joining(", "));
    }

    private static void constructors(Class<?> face) {
        Constructor<?>[] all = face.getDeclaredConstructors();
        CHECK.same("constructors", all.length, 1);
        CHECK.same("its arguments", list(all[0].getParameterTypes()), "int");
        CHECK.note(Modifier.isPublic(all[0].getModifiers()), "the constructor is not public");
    }

    private static void fields(Class<?> face) {
        for (Field field : face.getDeclaredFields()) {
            CHECK.note(Modifier.isPrivate(field.getModifiers()), field + " is not private");
        }
        staticFields(face);
    }

    private static void staticFields(Class<?> type) {
        for (Field field : type.getDeclaredFields()) {
            int modifiers = field.getModifiers();
            CHECK.note(!Modifier.isStatic(modifiers) || Modifier.isFinal(modifiers), field + " is not final");
        }
    }
}
