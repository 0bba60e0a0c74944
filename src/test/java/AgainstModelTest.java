import java.util.Map;
import java.util.Random;
import java.util.TreeMap;

/** Long runs of calls, the same ones every time, whose answers are those of the model. */
public final class AgainstModelTest {
    private static final String NUMERIC = "+-*%|<>=&^";
    private static final String TOKENS = "()ABCDEFGH:+-*%|<>=&^ir,tvp/\\.@ 0123456789_";
    private static final String[] EDGES = {
        "0", "1", "_1", "2", "3", "48", "49", "_49", "999999999", "_999999999", "7 7 0", "48 48 0", "0 48 48",
        "(147483647+2*999999999+1)", "(_147483648-2*999999999+1)", "((_147483648-2*999999999+1),_1)"};

    private final Random random;
    private final Check check = new Check();
    private final Map<String, Integer> kinds = new TreeMap<>();

    private AgainstModelTest(long seed) {
        random = new Random(seed);
    }

    public static void main(String[] args) {
        AgainstModelTest test = new AgainstModelTest(args.length > 0 ? Long.parseLong(args[0]) : 20261117);
        int objects = args.length > 1 ? Integer.parseInt(args[1]) : 6000;
        for (int k = 0; k < objects; k++) {
            test.oneObject();
        }
        System.out.println("outcomes: " + test.kinds);
        for (String kind : "-1 D L N R S X fine".split(" ")) {
            test.check.same("some " + kind, test.kinds.getOrDefault(kind, 0) >= objects / 10, true);
        }
        test.check.end();
    }

    private void oneObject() {
        RankCalc calc = new RankCalc();
        Model model = new Model();
        int runs = 1 + random.nextInt(30);
        StringBuilder story = new StringBuilder();
        for (int k = 0; k < runs; k++) {
            if (random.nextInt(12) != 0) {
                calc.clear();
                model.clear();
                story.append(" clear");
            }
            String text = k < 3 ? (char) ('A' + k) + ":" + term(0, 0) : text();
            story.append(" {").append(text).append("}");
            feed(calc, model, text, story);
            String got = Check.outcomeOfRun(calc);
            String want = model.run();
            String kind = want.startsWith("[") ? "fine" : want;
            kinds.merge(kind, 1, Integer::sum);
            check.same(story + " run", got, want);
            compare(calc, model, story);
            if (random.nextInt(8) == 0) {
                int name = random.nextInt(12) - 2;
                story.append(" forget ").append(name);
                check.same(story.toString(), calc.forget(name), model.forget(name));
            }
        }
    }

    private void feed(RankCalc calc, Model model, String text, StringBuilder story) {
        for (int k = 0; k < text.length();) {
            int end = Math.min(text.length(), k + 1 + random.nextInt(4));
            int w = Check.word(text.substring(k, end));
            check.same(story + " feed " + w, calc.feed(w), model.feed(w));
            k = end;
        }
        if (random.nextInt(30) == 0) {
            int w = random.nextInt();
            story.append(" feed ").append(w);
            check.same(story.toString(), calc.feed(w), model.feed(w));
        }
    }

    private void compare(RankCalc calc, Model model, StringBuilder story) {
        check.same(story + " result", Check.result(calc), model.result());
        check.same(story + " sum", calc.sum(), model.sum().longValueExact());
        check.same(story + " done", calc.done(), model.done());
        for (int k = -1; k < 9; k++) {
            check.same(story + " held " + k, calc.held(k), model.held(k));
        }
    }

    private String text() {
        int kind = random.nextInt(20);
        if (kind == 0) {
            return anySigns();
        }
        String statement = (random.nextInt(3) == 0 ? name() + blank() + ":" : "") + expression(random.nextInt(6), 0);
        if (kind == 1 && !statement.isEmpty()) {
            int at = random.nextInt(statement.length());
            return statement.substring(0, at) + TOKENS.charAt(random.nextInt(TOKENS.length()))
                    + statement.substring(at + random.nextInt(2));
        }
        return statement;
    }

    private String anySigns() {
        StringBuilder signs = new StringBuilder();
        int n = random.nextInt(12);
        for (int k = 0; k < n; k++) {
            signs.append(random.nextInt(20) == 0 ? (char) (1 + random.nextInt(255))
                    : TOKENS.charAt(random.nextInt(TOKENS.length())));
        }
        return signs.toString();
    }

    private String expression(int functions, int depth) {
        if (functions == 0) {
            return term(0, depth);
        }
        if (random.nextInt(5) < 2) {
            return functionOfOne() + blank() + expression(functions - 1, depth);
        }
        int left = random.nextInt(functions);
        return term(left, depth) + blank() + functionOfTwo() + blank() + expression(functions - 1 - left, depth);
    }

    private String term(int functions, int depth) {
        if (functions > 0 || random.nextInt(30) == 0) {
            return "(" + (depth > 7 ? "1" : expression(functions, depth + 1)) + ")";
        }
        switch (random.nextInt(8)) {
            case 0: case 1: return name();
            case 2: return shaped();
            case 3: return EDGES[random.nextInt(EDGES.length)];
            case 4: return "(i" + random.nextInt(5) + ")";
            case 5: return numbers(1 + random.nextInt(2));
            case 6: return random.nextInt(20) == 0 ? numbers(47 + random.nextInt(4)) : numbers(1 + random.nextInt(6));
            default: return numbers(1 + random.nextInt(3));
        }
    }

    /** An array in ( ), often with the same few lengths so that two of them fit together. */
    private String shaped() {
        StringBuilder lengths = new StringBuilder();
        int rank = 1 + random.nextInt(3);
        for (int k = 0; k < rank; k++) {
            lengths.append(k == 0 ? "" : " ").append(random.nextInt(6) == 0 ? random.nextInt(8) : 2);
        }
        return "(" + lengths + "r" + (random.nextBoolean() ? "i8" : numbers(1 + random.nextInt(5))) + ")";
    }

    private String numbers(int n) {
        StringBuilder row = new StringBuilder();
        for (int k = 0; k < n; k++) {
            row.append(k == 0 ? "" : " ").append(random.nextInt(6) == 0 ? "_" : "");
            row.append(random.nextInt(25) == 0 ? random.nextInt(1000000000) : random.nextInt(4));
        }
        return row.toString();
    }

    private String functionOfOne() {
        switch (random.nextInt(4)) {
            case 0: return numeric() + blank() + (random.nextBoolean() ? "/" : "\\");
            case 1: return "" + "-|*".charAt(random.nextInt(3));
            default: return "" + "ir,tv".charAt(random.nextInt(5));
        }
    }

    private String functionOfTwo() {
        switch (random.nextInt(6)) {
            case 0: return numeric() + blank() + "." + blank() + numeric();
            case 1: return numeric() + blank() + "@";
            case 2: case 3: return "" + "r,p".charAt(random.nextInt(3));
            default: return numeric();
        }
    }

    private String numeric() {
        return "" + NUMERIC.charAt(random.nextInt(NUMERIC.length()));
    }

    private String name() {
        return "" + (char) ('A' + random.nextInt(random.nextInt(4) == 0 ? 8 : 3));
    }

    private String blank() {
        return random.nextInt(8) == 0 ? " " : "";
    }
}
