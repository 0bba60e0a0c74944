import java.lang.reflect.Constructor;
import java.lang.reflect.Field;
import java.lang.reflect.Method;
import java.lang.reflect.Modifier;
import java.util.Arrays;
import java.util.TreeSet;

/** The public face: the class, its constructor and its methods, and no other member to be seen. */
public final class FaceTest {
    private static final String[] METHODS = {
        "int feed(int)", "void clear()", "int run()", "int rank()", "int axis(int)", "int size()",
        "long element(int)", "long sum()", "int held(int)", "boolean forget(int)", "int done()"};

    public static void main(String[] args) throws Exception {
        Check check = new Check();
        int modifiers = RankCalc.class.getModifiers();
        check.same("public final", Modifier.isPublic(modifiers) && Modifier.isFinal(modifiers), true);
        TreeSet<String> visible = new TreeSet<>();
        for (Method m : RankCalc.class.getDeclaredMethods()) {
            if (!Modifier.isPrivate(m.getModifiers()) && !m.isSynthetic()) {
                visible.add(m.getReturnType().getName() + " " + m.getName()
                        + (m.getParameterCount() == 0 ? "()" : Arrays.toString(m.getParameterTypes())
                                .replace('[', '(').replace(']', ')')));
                check.same(m + " is public", Modifier.isPublic(m.getModifiers()), true);
            }
        }
        check.same("methods", visible, new TreeSet<>(Arrays.asList(METHODS)));
        for (Field f : RankCalc.class.getDeclaredFields()) {
            check.same(f + " is private", Modifier.isPrivate(f.getModifiers()), true);
        }
        Constructor<?>[] made = RankCalc.class.getDeclaredConstructors();
        check.same("constructors", made.length, 1);
        check.same("constructor", made[0].toString(), "public RankCalc()");
        int thrown = RankCalc.class.getMethod("run").getExceptionTypes().length;
        check.same("exceptions of run", thrown, 6);
        check.end();
    }
}
