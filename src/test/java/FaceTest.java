import java.io.IOException;
import java.lang.reflect.Constructor;
import java.lang.reflect.Executable;
import java.lang.reflect.Field;
import java.lang.reflect.Method;
import java.lang.reflect.Modifier;
import java.util.Arrays;
import java.util.Set;
import java.util.TreeSet;
import java.util.stream.Collectors;

/** The document's face, whole and with nothing beside it (rules 1, 5 and 11 of the language). */
final class FaceTest {
    private static final Check CHECK = new Check("FaceTest");

    public static void main(String[] args) throws IOException {
        Class<?> face = EscrowCounter.class;
        CHECK.same("the class", Modifier.toString(face.getModifiers()), "public final");
        sameAsInTheDocument(face);
        Set<String> names = namesOfTheFace(face);
        privateMembers(face, names);
        for (Class<?> inside : face.getDeclaredClasses()) {
            CHECK.note(Modifier.isStatic(inside.getModifiers()), inside + " is not static");
            CHECK.note(!Modifier.isPublic(inside.getModifiers()), inside + " is public");
            CHECK.note(!Modifier.isProtected(inside.getModifiers()), inside + " is protected");
            fields(inside);
            for (Method method : inside.getDeclaredMethods()) {
                CHECK.note(!names.contains(method.getName()), method + " has the name of a public one");
            }
        }
        CHECK.note(face.getDeclaredClasses().length < 12, "too many classes inside");
        CHECK.end();
    }

    private static void sameAsInTheDocument(Class<?> face) throws IOException {
        Set<String> due = new TreeSet<>();
        for (String line : new Document().face()) {
            due.add(withoutNames(line));
        }
        Set<String> got = new TreeSet<>();
        for (Constructor<?> constructor : face.getDeclaredConstructors()) {
            got.add(signature(constructor, face.getSimpleName()));
        }
        for (Method method : face.getDeclaredMethods()) {
            if (!Modifier.isPrivate(method.getModifiers())) {
                got.add(signature(method, method.getReturnType() + " " + method.getName()));
            }
        }
        CHECK.same("lines of the document's face", due.size(), 32);
        CHECK.same("the public face", String.join("\n", got), String.join("\n", due));
    }

    /** A line of the document without the names of its arguments. */
    private static String withoutNames(String line) {
        return line.replace(";", "").replaceAll("(?<=[(,] ?)int \\w+", "int");
    }

    private static String signature(Executable call, String name) {
        String thrown = list(call.getExceptionTypes());
        return Modifier.toString(call.getModifiers()) + " " + name + "(" + list(call.getParameterTypes()) + ")"
                + (thrown.isEmpty() ? "" : " throws " + thrown);
    }

    private static String list(Class<?>[] types) {
        return Arrays.stream(types).map(Class::getSimpleName).collect(Collectors.joining(", "));
    }

    private static Set<String> namesOfTheFace(Class<?> face) {
        Set<String> names = new TreeSet<>();
        for (Method method : face.getDeclaredMethods()) {
            if (Modifier.isPublic(method.getModifiers())) {
                names.add(method.getName());
            }
        }
        return names;
    }

    private static void privateMembers(Class<?> face, Set<String> names) {
        for (Method method : face.getDeclaredMethods()) {
            boolean isPrivate = Modifier.isPrivate(method.getModifiers());
            CHECK.note(!isPrivate || !names.contains(method.getName()), method + " has the name of a public one");
        }
        for (Field field : face.getDeclaredFields()) {
            CHECK.note(Modifier.isPrivate(field.getModifiers()), field + " is not private");
        }
        fields(face);
    }

    private static void fields(Class<?> type) {
        int ofAnObject = 0;
        for (Field field : type.getDeclaredFields()) {
            int modifiers = field.getModifiers();
            CHECK.note(!Modifier.isStatic(modifiers) || Modifier.isFinal(modifiers), field + " is not final");
            ofAnObject += Modifier.isStatic(modifiers) ? 0 : 1;
        }
        CHECK.note(ofAnObject <= 20, type + " has too many fields");
    }
}
