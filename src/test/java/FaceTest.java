import java.lang.reflect.Constructor;
import java.lang.reflect.Field;
import java.lang.reflect.Method;
import java.lang.reflect.Modifier;
import java.util.Set;
import java.util.TreeSet;

/** The class shows the document's face and nothing else, and holds only what LANGUAGE.md lets it hold. */
public final class FaceTest {
    private static int wrong = 0;

    private static void check(boolean holds, String what) {
        if (!holds) {
            wrong++;
            System.out.println("does not hold: " + what);
        }
    }

    private static Set<String> face() {
        return new TreeSet<>(Set.of(
            "BAD_ARG = -1", "FULL = -2", "NONE = -4", "BitSyntaxMatch()",
            "int literal(int, int)", "int field(int, int, int)", "int sized(int, int, int)", "int skip(int, int)",
            "int same(int, int)", "int rest(int)", "int segments()", "void scrap()", "int end()", "int unend()",
            "int rules()", "int feed(int)", "int put(int, int)", "void empty()", "int match()", "int matchFrom(int)",
            "int bound(int)", "int boundBy(int, int)", "int fitting()"));
    }

    private static String parameters(Class<?>[] types) {
        StringBuilder text = new StringBuilder();
        for (Class<?> type : types) {
            text.append(text.length() == 0 ? "" : ", ").append(type.getName());
        }
        return "(" + text + ")";
    }

    private static Set<String> visibleMembers(Class<?> type) throws IllegalAccessException {
        Set<String> members = new TreeSet<>();
        for (Field field : type.getDeclaredFields()) {
            if (!Modifier.isPrivate(field.getModifiers())) {
                boolean constant = field.toString().startsWith("public static final int ");
                members.add(constant ? field.getName() + " = " + field.getInt(null) : field.toString());
            }
        }
        for (Constructor<?> made : type.getDeclaredConstructors()) {
            members.add(made.getName() + parameters(made.getParameterTypes()));
            check(Modifier.isPublic(made.getModifiers()), made + " is public");
        }
        for (Method method : type.getDeclaredMethods()) {
            if (!Modifier.isPrivate(method.getModifiers())) {
                members.add(method.getReturnType() + " " + method.getName() + parameters(method.getParameterTypes()));
                check(method.getModifiers() == Modifier.PUBLIC, method + " is public and nothing else");
            }
        }
        return members;
    }

    private static void checkPrivateNames(Class<?> type) {
        Set<String> names = new TreeSet<>();
        for (Method method : type.getDeclaredMethods()) {
            check(names.add(method.getName()), "no two methods are named " + method.getName());
            check(method.getParameterCount() <= 7, method + " has at most seven parameters");
        }
    }

    private static void checkFields(Class<?> type) {
        int held = 0;
        for (Field field : type.getDeclaredFields()) {
            Class<?> holds = field.getType().isArray() ? field.getType().getComponentType() : field.getType();
            check(holds.isPrimitive() && holds != float.class && holds != double.class, field + " holds whole numbers");
            if (Modifier.isStatic(field.getModifiers())) {
                check(Modifier.isFinal(field.getModifiers()) && !field.getType().isArray(), field + " is a constant");
            } else {
                held++;
            }
        }
        check(held <= 40, "at most forty fields beside the constants");
    }

    public static void main(String[] args) throws IllegalAccessException {
        Class<?> type = BitSyntaxMatch.class;
        check(Modifier.isFinal(type.getModifiers()) && Modifier.isPublic(type.getModifiers()), "public and final");
        check(type.getSuperclass() == Object.class && type.getInterfaces().length == 0, "no other class above it");
        check(type.getDeclaredClasses().length == 0, "no nested class");
        Set<String> members = visibleMembers(type);
        check(members.equals(face()), "the face is " + face() + " but the class shows " + members);
        checkPrivateNames(type);
        checkFields(type);
        System.out.println(wrong == 0 ? "the face is as due" : wrong + " checks failed");
        if (wrong != 0) {
            System.exit(1);
        }
    }
}
