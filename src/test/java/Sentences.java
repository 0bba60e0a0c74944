import java.io.IOException;
import java.nio.file.Files;
import java.nio.file.Path;
import java.util.LinkedHashMap;
import java.util.Map;

/**
 * Tests that each stand for one sentence of the document. A test begins with promise(n, words); what is asked after
 * it, up to the next one, belongs to it, and a wrong answer is told with the promise and the sentence.
 *
 * <p>The words must be those of the document, and no word of its promises may be left without a test, so that a
 * sentence that is changed or added there is noticed here.
 */
final class Sentences {
    private static final Path DOCUMENT = Path.of("../shared/DOC.md");
    private static final String OBJECTS = "What it is";
    private static final String TERMS = "Terms";

    private final Check check = new Check();
    private final Map<String, String> sections = new LinkedHashMap<>();
    private final Map<String, boolean[]> named = new LinkedHashMap<>();
    private String current = "";
    private int asked = 1;
    private int tests;

    Sentences() {
        if (!Files.exists(DOCUMENT)) {
            System.out.println("there is no " + DOCUMENT + ": the words of the sentences are not compared");
            return;
        }
        try {
            readDocument();
        } catch (IOException e) {
            throw new IllegalStateException(e);
        }
    }

    private void readDocument() throws IOException {
        for (String section : Files.readString(DOCUMENT).split("(?m)^## ")) {
            int end = section.indexOf('\n');
            String heading = section.substring(0, end).trim().replaceAll(":.*", "");
            if (heading.startsWith("Promise ") || heading.equals(TERMS) || heading.equals(OBJECTS)) {
                // the head of a method is no sentence: FaceTest is for it
                String words = joined(section.substring(end).replaceAll("(?m)^```.*$", " ").replaceAll("`[^`]*`", " "));
                sections.put(heading, words);
                named.put(heading, new boolean[words.length()]);
            }
        }
    }

    private static String joined(String words) {
        return words.replaceAll("\\s+", " ").trim();
    }

    /** The test that begins here is for these words of promise n, for promise 4 also of the terms. */
    void promise(int n, String words) {
        begin("Promise " + n, words, n == 4 ? TERMS : "Promise " + n, "Promise " + n);
    }

    /** The test that begins here is for what is said of every object. */
    void everyPromise(String words) {
        begin("Promises 1 to 12", words, OBJECTS, OBJECTS);
    }

    private void begin(String promise, String words, String... places) {
        closeCurrent();
        current = promise + ", \"" + words + "\"";
        asked = 0;
        tests++;
        if (!sections.isEmpty()) {
            boolean found = false;
            for (String place : places) {
                found |= mark(place, joined(words));
            }
            check.same(current + ": in the document", found, true);
        }
    }

    private void closeCurrent() {
        check.same(current + ": answers that were asked for", asked > 0, true);
    }

    private boolean mark(String place, String words) {
        String section = sections.getOrDefault(place, "");
        int at = section.indexOf(words);
        for (int from = at; from >= 0; from = section.indexOf(words, from + 1)) {
            for (int k = from; k < from + words.length(); k++) {
                named.get(place)[k] = true;
            }
        }
        return at >= 0;
    }

    void same(String what, Object got, Object want) {
        asked++;
        check.same(current + "\n    " + what, got, want);
    }

    /** Runs a text on a new object, and on one where earlier runs have left what they could. */
    void text(String text, String want) {
        on(new RankCalc(), text, want);
        same("after other runs '" + text + "'", Check.outcome(worn(), text), want);
    }

    /** An object without names whose inner rows are full of negative numbers, and which stopped amid a run. */
    private static RankCalc worn() {
        RankCalc calc = new RankCalc();
        Check.outcome(calc, "A:2 3 8r_5");
        Check.outcome(calc, "((((((A&A)&A)&A)&A)&A)&A)&A");
        Check.outcome(calc, "(((((-A)+1)%0)+A)&A)&A");
        Check.outcome(calc, "B:((((((_9 _9");
        calc.forget(0);
        return calc;
    }

    /** Runs texts that are no statements on new objects. */
    void noStatements(String... texts) {
        for (String text : texts) {
            text(text, "-1");
        }
    }

    /** Runs a text on a new object whose name A holds the greatest int, and B the least. */
    void ends(String text, String want) {
        RankCalc calc = new RankCalc();
        Check.outcome(calc, "A:147483647+2*999999999+1");
        Check.outcome(calc, "B:_147483648-2*999999999+1");
        on(calc, text, want);
    }

    void on(RankCalc calc, String text, String want) {
        same("'" + text + "' is no longer than a text may be", text.length() <= 200, true);
        same("'" + text + "'", Check.outcome(calc, text), want);
    }

    void end() {
        closeCurrent();
        for (Map.Entry<String, String> section : sections.entrySet()) {
            if (section.getKey().equals(OBJECTS)) {
                continue;
            }
            String rest = withoutTest(section.getValue(), named.get(section.getKey()));
            check.same("words without a test under '" + section.getKey() + "'", rest, "");
        }
        System.out.println(tests + " sentences");
        check.end();
    }

    private static String withoutTest(String words, boolean[] marks) {
        StringBuilder rest = new StringBuilder();
        for (int k = 0; k < marks.length; k++) {
            rest.append(marks[k] ? ' ' : words.charAt(k));
        }
        String told = joined(rest.toString());
        // single signs may stand between two sentences
        return told.matches(".*[A-Za-z0-9].*") ? told : "";
    }
}
