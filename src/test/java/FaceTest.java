import java.lang.reflect.Constructor;
import java.lang.reflect.Field;
import java.lang.reflect.Member;
import java.lang.reflect.Method;
import java.lang.reflect.Modifier;
import java.util.Arrays;
import java.util.List;
import java.util.TreeSet;

/** The public face: what the document shows, and nothing else that can be seen. */
public final class FaceTest {
    public static void main(String[] args) {
        TreeSet<String> want = new TreeSet<>(List.of(
            "public final class LitmusRunner extends java.lang.Object []", "public constructor()",
            "public static final int NONE = -1", "public static final int BAD = -2", "public static final int FULL = -3",
            "public int clear()", "public int model(int)", "public int add(int,int,int,int,int,int,int)",
            "public int find()", "public long outcome(int)", "public int with(int,int)",
            "public int both(int,int,int,int)", "public int is(long)", "public int instruction(int,int,int)",
            "public int count(int)"));
        TreeSet<String> got = seen();
        if (!got.equals(want)) {
            System.out.println("the face is " + got + ", due is " + want);
            System.exit(1);
        }
        System.out.println("FaceTest: all as due");
    }

    private static TreeSet<String> seen() {
        TreeSet<String> seen = new TreeSet<>();
        Class<?> c = LitmusRunner.class;
        seen.add(Modifier.toString(c.getModifiers()) + " class " + c.getName()
            + " extends " + c.getSuperclass().getName() + " " + Arrays.toString(c.getInterfaces()));
        for (Constructor<?> constructor : c.getDeclaredConstructors()) {
            seen.add(Modifier.toString(constructor.getModifiers()) + " constructor("
                + names(constructor.getParameterTypes()) + ")" + thrown(constructor.getExceptionTypes()));
        }
        for (Field f : c.getDeclaredFields()) {
            if (isSeen(f)) {
                seen.add(Modifier.toString(f.getModifiers()) + " " + f.getType() + " " + f.getName() + " = " + valueOf(f));
            }
        }
        for (Method m : c.getDeclaredMethods()) {
            if (isSeen(m)) {
                seen.add(Modifier.toString(m.getModifiers()) + " " + m.getReturnType() + " " + m.getName() + "("
                    + names(m.getParameterTypes()) + ")" + thrown(m.getExceptionTypes()));
            }
        }
        // Classes inside are no members of the face, as long as they are not public.
        for (Class<?> inside : c.getDeclaredClasses()) {
            int modifiers = inside.getModifiers();
            if (Modifier.isPublic(modifiers) || Modifier.isProtected(modifiers) || !Modifier.isStatic(modifiers)) {
                seen.add(Modifier.toString(modifiers) + " class " + inside.getSimpleName());
            }
        }
        return seen;
    }

    private static boolean isSeen(Member member) {
        return !Modifier.isPrivate(member.getModifiers()) && !member.isSynthetic();
    }

    private static String names(Class<?>[] types) {
        StringBuilder text = new StringBuilder();
        for (Class<?> type : types) {
            text.append(text.length() == 0 ? "" : ",").append(type.getName());
        }
        return text.toString();
    }

    private static String thrown(Class<?>[] types) {
        return types.length == 0 ? "" : " throws " + names(types);
    }

    private static Object valueOf(Field f) {
        try {
            return f.get(null);
        } catch (IllegalAccessException | NullPointerException e) {
            return "?";
        }
    }
}
