import java.io.IOException;
import java.lang.reflect.Method;
import java.lang.reflect.Modifier;
import java.nio.file.Files;
import java.nio.file.Path;

/** README.md tells no more than what is so: its statements answer as it says, and it names every call. */
public final class ReadmeTest {
    public static void main(String[] args) throws IOException {
        Check check = new Check();
        String page = Files.readString(Path.of("README.md"));
        statements(check, block(page, "text"));
        theExample(check, block(page, "java"));
        for (Method m : RankCalc.class.getDeclaredMethods()) {
            if (Modifier.isPublic(m.getModifiers())) {
                String call = "`" + m.getName() + (m.getParameterCount() == 0 ? "()`" : "(");
                check.same("README.md names " + call, page.contains("| " + call), true);
            }
        }
        check.end();
    }

    private static String block(String page, String kind) {
        int from = page.indexOf("```" + kind + "\n") + kind.length() + 4;
        return page.substring(from, page.indexOf("```", from));
    }

    private static void statements(Check check, String block) {
        RankCalc calc = new RankCalc();
        String[] lines = block.split("\n");
        check.same("some statements", lines.length > 20, true);
        for (String line : lines) {
            String[] parts = line.split(" {2,}");
            check.same("a text and what it answers: " + line, parts.length, 2);
            check.same("'" + parts[0] + "'", Check.outcome(calc, parts[0]), parts[1]);
        }
    }

    /** The calls of the example, whose answers are the numbers that its remarks begin with. */
    private static void theExample(Check check, String block) {
        RankCalc calc = new RankCalc();
        long[] answers = {calc.feed(Check.word("A:i4")), calc.run(), 0, 0, 0};
        calc.clear();
        answers[2] = calc.feed(Check.word("+/A"));
        answers[3] = calc.run();
        answers[4] = calc.element(0);
        int at = 0;
        for (String line : block.split("\n")) {
            int remark = line.indexOf("//");
            if (remark >= 0) {
                check.same(line, line.substring(remark + 2).trim().split("\\D")[0], "" + answers[at]);
                at++;
            }
        }
        check.same("answers in the example", at, 5);
    }
}
