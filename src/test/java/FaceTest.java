import java.lang.reflect.Constructor;
import java.lang.reflect.Field;
import java.lang.reflect.Member;
import java.lang.reflect.Method;
import java.lang.reflect.Modifier;
import java.util.Set;
import java.util.TreeSet;

/** The public face is the document's, and nothing else of the class can be seen from outside. */
public final class FaceTest {
    private static final Set<String> FACE = new TreeSet<>(Set.of(
            "int BAD", "int FULL", "int OBJECT", "CollectorSuite()",
            "int make(int)", "boolean number(int, int)", "boolean copy(int, int)",
            "boolean get(int, int, int)", "boolean put(int, int, int)", "int value(int, int)",
            "int look(int, int, int)", "boolean same(int, int, int)", "int count(int)",
            "int reach(int, int)", "int sum(int)", "int collect(int)", "boolean agree(int, int)",
            "boolean sound()"));
    private static final Checks CHECKS = new Checks();

    private FaceTest() {
    }

    public static void main(String[] args) {
        Class<CollectorSuite> type = CollectorSuite.class;
        Set<String> found = new TreeSet<>();
        for (Field field : type.getDeclaredFields()) {
            if (isSeen(field)) {
                found.add(field.getType() + " " + field.getName());
                CHECKS.due(field + " is a constant", Modifier.isStatic(field.getModifiers())
                        && Modifier.isFinal(field.getModifiers()), true);
            }
        }
        for (Constructor<?> constructor : type.getDeclaredConstructors()) {
            if (isSeen(constructor)) {
                found.add("CollectorSuite" + list(constructor.getParameterTypes()));
            }
        }
        for (Method method : type.getDeclaredMethods()) {
            if (isSeen(method)) {
                found.add(method.getReturnType() + " " + method.getName()
                        + list(method.getParameterTypes()));
                CHECKS.due(method + " is static", Modifier.isStatic(method.getModifiers()), false);
            }
        }
        CHECKS.due("the face " + found + " is " + FACE, found.equals(FACE), true);
        CHECKS.due("public", Modifier.isPublic(type.getModifiers()), true);
        CHECKS.due("final", Modifier.isFinal(type.getModifiers()), true);
        CHECKS.due("nested classes", type.getDeclaredClasses().length, 0);
        CHECKS.due("interfaces", type.getInterfaces().length, 0);
        CHECKS.due("BAD", CollectorSuite.BAD, -1000);
        CHECKS.due("FULL", CollectorSuite.FULL, -2000);
        CHECKS.due("OBJECT", CollectorSuite.OBJECT, -3000);
        CHECKS.end();
    }

    private static boolean isSeen(Member member) {
        boolean isPrivate = Modifier.isPrivate(member.getModifiers());
        CHECKS.due(member + " is public or private",
                isPrivate || Modifier.isPublic(member.getModifiers()), true);
        return !isPrivate;
    }

    private static String list(Class<?>[] types) {
        StringBuilder text = new StringBuilder("(");
        for (Class<?> type : types) {
            text.append(text.length() > 1 ? ", " : "").append(type);
        }
        return text.append(")").toString();
    }
}
