import java.io.IOException;
import java.lang.reflect.Constructor;
import java.lang.reflect.Field;
import java.lang.reflect.Method;
import java.lang.reflect.Modifier;
import java.nio.file.Files;
import java.nio.file.Path;
import java.util.TreeSet;

/** The public face: what stands under 'The public face' in the document, word for word, and no other member. */
public final class FaceTest {
    private static final String RUN = "public int run() throws IllegalStateException, ArithmeticException,"
            + " IllegalArgumentException, UnsupportedOperationException, IndexOutOfBoundsException, NoSuchElementException";
    private static final String[] FACE = {
        "public RankCalc()", "public int feed(int)", "public void clear()", RUN, "public int rank()",
        "public int axis(int)", "public int size()", "public long element(int)", "public long sum()",
        "public int held(int)", "public boolean forget(int)", "public int done()"};

    public static void main(String[] args) throws IOException {
        Check check = new Check();
        TreeSet<String> due = new TreeSet<>();
        for (String member : FACE) {
            due.add(member);
        }
        check.same("class", Modifier.toString(RankCalc.class.getModifiers()), "public final");
        check.same("package", RankCalc.class.getPackageName(), "");
        check.same("superclass", RankCalc.class.getSuperclass(), Object.class);
        check.same("interfaces", RankCalc.class.getInterfaces().length, 0);
        check.same("members", visibleMembers(), due);
        for (Field f : RankCalc.class.getDeclaredFields()) {
            check.same(f + " is private", Modifier.isPrivate(f.getModifiers()), true);
        }
        for (Class<?> inside : RankCalc.class.getDeclaredClasses()) {
            int modifiers = inside.getModifiers();
            check.same(inside + " is static", Modifier.isStatic(modifiers), true);
            check.same(inside + " is to be seen", Modifier.isPublic(modifiers) || Modifier.isProtected(modifiers), false);
        }
        Path document = Path.of("../shared/DOC.md");
        if (Files.exists(document)) {
            check.same("members in the document", membersOf(Files.readString(document)), due);
        }
        check.end();
    }

    private static TreeSet<String> visibleMembers() {
        TreeSet<String> visible = new TreeSet<>();
        for (Method m : RankCalc.class.getDeclaredMethods()) {
            if (!Modifier.isPrivate(m.getModifiers()) && !m.isSynthetic()) {
                visible.add(plain(m.toString()));
            }
        }
        for (Constructor<?> c : RankCalc.class.getDeclaredConstructors()) {
            if (!Modifier.isPrivate(c.getModifiers()) && !c.isSynthetic()) {
                visible.add(plain(c.toString()));
            }
        }
        return visible;
    }

    /** The head of a member without packages, without its class, and with a blank behind each comma. */
    private static String plain(String head) {
        return head.replaceAll("java\\.(lang|util)\\.", "").replace("RankCalc.", "").replaceAll(",\\s*", ", ");
    }

    private static TreeSet<String> membersOf(String document) {
        int from = document.indexOf("public final class RankCalc {");
        String block = from < 0 ? "" : document.substring(from, document.indexOf("```", from));
        TreeSet<String> members = new TreeSet<>();
        for (String line : block.split("\n")) {
            if (line.endsWith(";")) {
                // parameters have a name there
                members.add(line.trim().replace(";", "").replaceAll("(int|long) \\w+(?=[,)])", "$1"));
            }
        }
        return members;
    }
}
