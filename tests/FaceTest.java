import java.lang.reflect.Constructor;
import java.lang.reflect.Field;
import java.lang.reflect.Method;
import java.lang.reflect.Modifier;
import java.util.ArrayList;
import java.util.List;
import java.util.TreeSet;

/** The public face is the one of the document's first code block, and there is nothing else to be seen. */
public final class FaceTest {
    private static final String[] FACE = {
        "public static final int NONE",
        "public TokenReviews()",
        "public int paper(int, int) throws IllegalArgumentException, IllegalStateException",
        "public int topics(int, int) throws IndexOutOfBoundsException, IllegalArgumentException",
        "public int meet(int, int) throws IndexOutOfBoundsException, IllegalArgumentException",
        "public int set(int, int) throws IndexOutOfBoundsException, IllegalArgumentException",
        "public int bring(int) throws IllegalArgumentException, IllegalStateException",
        "public int week() throws IllegalStateException",
        "public int take(int, int) throws IndexOutOfBoundsException",
        "public int write(int, int, int) throws IndexOutOfBoundsException, IllegalArgumentException, "
            + "IllegalStateException",
        "public int drop(int, int) throws IndexOutOfBoundsException, IllegalStateException",
        "public int discuss(int) throws IndexOutOfBoundsException",
        "public int rebut(int) throws IndexOutOfBoundsException",
        "public int decide(int) throws IndexOutOfBoundsException, IllegalStateException",
        "public int append(int) throws IllegalArgumentException, IllegalStateException",
        "public int clearBuffer()",
        "public int firstError()",
        "public int run() throws IllegalArgumentException",
        "public int keep(int) throws IllegalArgumentException",
        "public int goBack(int) throws IllegalArgumentException, IllegalStateException",
        "public int undo() throws IllegalStateException",
        "public int personOf(int, int) throws IndexOutOfBoundsException, IllegalArgumentException",
        "public int paperOf(int, int) throws IndexOutOfBoundsException, IllegalArgumentException",
        "public int score(int, int) throws IndexOutOfBoundsException",
        "public int count(int) throws IllegalArgumentException",
        "public int setting(int) throws IndexOutOfBoundsException",
        "public int whyNot(int, int) throws IndexOutOfBoundsException",
        "public int bestReviewer(int) throws IndexOutOfBoundsException",
        "public int most(int) throws IllegalArgumentException",
        "public int needed()",
        "public int roundsToAgree(int) throws IndexOutOfBoundsException",
        "public double meanScore(int) throws IndexOutOfBoundsException",
        "public float spentShare()",
        "public long digest()",
    };

    private static int wrong = 0;

    public static void main(String[] args) {
        Class<?> type = TokenReviews.class;
        due("the class", Modifier.toString(type.getModifiers()), "public final");
        due("its package", type.getPackageName(), "");
        due("what it extends", type.getSuperclass().getName(), "java.lang.Object");
        due("what it implements", "" + type.getInterfaces().length, "0");
        due("NONE", "" + TokenReviews.NONE, "-1");
        TreeSet<String> got = visible(type);
        TreeSet<String> missing = new TreeSet<>(List.of(FACE));
        missing.removeAll(got);
        got.removeAll(List.of(FACE));
        due("what is missing", missing.toString(), "[]");
        due("what is too much", got.toString(), "[]");
        for (Class<?> inside : type.getDeclaredClasses()) {
            int modifiers = inside.getModifiers();
            due(inside.getName() + " is static, and not to be seen", "" + (Modifier.isStatic(modifiers)
                    && !Modifier.isPublic(modifiers) && !Modifier.isProtected(modifiers)), "true");
        }
        System.out.println("FaceTest: " + FACE.length + " members, " + wrong + " not as due");
        if (wrong != 0) {
            System.exit(1);
        }
    }

    private static void due(String what, String got, String want) {
        if (!got.equals(want)) {
            wrong++;
            System.out.println("FaceTest: " + what + " is " + got + ", due is " + want);
        }
    }

    /** All members that are not private, but for those that the compiler adds. */
    private static TreeSet<String> visible(Class<?> type) {
        TreeSet<String> all = new TreeSet<>();
        for (Field field : type.getDeclaredFields()) {
            if (!Modifier.isPrivate(field.getModifiers()) && !field.isSynthetic()) {
                all.add(head(field.getModifiers(), field.getType().getName() + " " + field.getName()));
            }
        }
        for (Constructor<?> constructor : type.getDeclaredConstructors()) {
            if (!Modifier.isPrivate(constructor.getModifiers()) && !constructor.isSynthetic()) {
                all.add(head(constructor.getModifiers(), constructor.getName() + "("
                        + names(constructor.getParameterTypes(), "") + ")"
                        + names(constructor.getExceptionTypes(), " throws ")));
            }
        }
        for (Method method : type.getDeclaredMethods()) {
            if (!Modifier.isPrivate(method.getModifiers()) && !method.isSynthetic()) {
                all.add(head(method.getModifiers(), method.getReturnType().getName() + " " + method.getName() + "("
                        + names(method.getParameterTypes(), "") + ")" + names(method.getExceptionTypes(), " throws ")));
            }
        }
        return all;
    }

    private static String head(int modifiers, String rest) {
        String words = Modifier.toString(modifiers);
        return words.isEmpty() ? rest : words + " " + rest;
    }

    private static String names(Class<?>[] types, String ahead) {
        List<String> names = new ArrayList<>();
        for (Class<?> type : types) {
            names.add(type.getSimpleName());
        }
        return names.isEmpty() ? "" : ahead + String.join(", ", names);
    }
}
