import java.lang.reflect.Field;
import java.lang.reflect.Method;
import java.lang.reflect.Modifier;
import java.util.TreeSet;

/** The public face: what the document shows, and nothing else that can be seen. */
public final class FaceTest {
    public static void main(String[] args) {
        TreeSet<String> want = new TreeSet<>(java.util.List.of(
            "class final", "constructor()", "int NONE = -1", "int BAD = -2", "int FULL = -3",
            "int clear()", "int model(int)", "int add(int,int,int,int,int,int,int)", "int find()",
            "long outcome(int)", "int with(int,int)", "int both(int,int,int,int)", "int is(long)",
            "int instruction(int,int,int)", "int count(int)"));
        TreeSet<String> got = seen();
        if (!got.equals(want)) {
            System.out.println("the face is " + got + ", due is " + want);
            System.exit(1);
        }
        System.out.println("FaceTest: all as due");
    }

    private static TreeSet<String> seen() {
        TreeSet<String> seen = new TreeSet<>();
        Class<?> c = LitmusRunner.class;
        seen.add(Modifier.isFinal(c.getModifiers()) ? "class final" : "class");
        for (var constructor : c.getDeclaredConstructors()) {
            seen.add("constructor(" + names(constructor.getParameterTypes()) + ")");
        }
        for (Field f : c.getDeclaredFields()) {
            if (!Modifier.isPrivate(f.getModifiers())) {
                seen.add(f.getType() + " " + f.getName() + " = " + valueOf(f));
            }
        }
        for (Method m : c.getDeclaredMethods()) {
            if (!Modifier.isPrivate(m.getModifiers()) && !m.isSynthetic()) {
                seen.add(m.getReturnType() + " " + m.getName() + "(" + names(m.getParameterTypes()) + ")");
            }
        }
        return seen;
    }

    private static String names(Class<?>[] types) {
        StringBuilder text = new StringBuilder();
        for (Class<?> type : types) {
            text.append(text.length() == 0 ? "" : ",").append(type.getName());
        }
        return text.toString();
    }

    private static Object valueOf(Field f) {
        try {
            return f.get(null);
        } catch (IllegalAccessException | NullPointerException e) {
            return "?";
        }
    }
}
