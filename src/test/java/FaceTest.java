import java.lang.reflect.Constructor;
import java.lang.reflect.Field;
import java.lang.reflect.Method;
import java.lang.reflect.Modifier;
import java.util.List;
import java.util.TreeSet;

/** The public face is the document's, to the member, and nothing else can be seen from outside. */
public final class FaceTest {
    private static final String[] FACE = {
        "public static final int BAD_ARG = -1",
        "public static final int NONE = -4",
        "public (int)",
        "public int add(int, int)",
        "public int clear(int)",
        "public int dualize(int)",
        "public int shorten(int, int)",
        "public int puncture(int, int)",
        "public int exchange(int, int, int)",
        "public int meet()",
        "public int length()",
        "public int dimension(int)",
        "public int has(int, int)",
        "public int wordAt(int, int)",
        "public int weights(int, int)",
        "public int dualWeights(int, int)",
        "public int leastWeight(int)",
        "public int nearest(int, int)",
        "public int cosets(int, int)",
        "public int radius(int)",
        "public int isInformation(int, int)",
        "public int informationSets(int)",
        "public int orthogonal()"};

    public static void main(String[] args) throws IllegalAccessException {
        Class<?> type = LinearCodes.class;
        Checks.due("the class", Modifier.toString(type.getModifiers()), "public final");
        Checks.due("the superclass", type.getSuperclass().getName(), "java.lang.Object");
        Checks.due("interfaces", type.getInterfaces().length, 0);
        Checks.due("nested classes", type.getDeclaredClasses().length, 0);
        TreeSet<String> face = new TreeSet<>(List.of(FACE));
        Checks.due("the face", String.join("\n", visibleMembers(type)), String.join("\n", face));
        Checks.due("private methods with a public name", privateNamesakes(type).toString(), "[]");
        Checks.end();
    }

    private static TreeSet<String> visibleMembers(Class<?> type) throws IllegalAccessException {
        TreeSet<String> members = new TreeSet<>();
        for (Field field : type.getDeclaredFields()) {
            if (!Modifier.isPrivate(field.getModifiers())) {
                String value = Modifier.isStatic(field.getModifiers()) ? " = " + field.get(null) : "";
                members.add(signature(field.getModifiers(), field.getType() + " " + field.getName() + value));
            }
        }
        for (Constructor<?> constructor : type.getDeclaredConstructors()) {
            if (!Modifier.isPrivate(constructor.getModifiers())) {
                members.add(signature(constructor.getModifiers(), list(constructor.getParameterTypes())));
            }
        }
        for (Method method : type.getDeclaredMethods()) {
            if (!Modifier.isPrivate(method.getModifiers())) {
                String name = method.getReturnType() + " " + method.getName();
                members.add(signature(method.getModifiers(), name + list(method.getParameterTypes())));
            }
        }
        return members;
    }

    private static TreeSet<String> privateNamesakes(Class<?> type) {
        TreeSet<String> publicNames = new TreeSet<>();
        TreeSet<String> privateNames = new TreeSet<>();
        for (Method method : type.getDeclaredMethods()) {
            (Modifier.isPrivate(method.getModifiers()) ? privateNames : publicNames).add(method.getName());
        }
        privateNames.retainAll(publicNames);
        return privateNames;
    }

    private static String signature(int modifiers, String rest) {
        return Modifier.toString(modifiers) + " " + rest;
    }

    private static String list(Class<?>[] types) {
        StringBuilder list = new StringBuilder("(");
        for (Class<?> type : types) {
            list.append(list.length() == 1 ? "" : ", ").append(type.getName());
        }
        return list.append(")").toString();
    }
}
