import java.util.NoSuchElementException;

/** What the tests have in common: feeding texts, telling results as texts, and counting. */
final class Check {
    private int right;
    private int wrong;

    /** Clears the text and feeds this one, four codes a call. */
    static void say(RankCalc calc, String text) {
        calc.clear();
        for (int k = 0; k < text.length(); k += 4) {
            calc.feed(word(text.substring(k, Math.min(k + 4, text.length()))));
        }
    }

    /** Up to four codes as an argument of feed. */
    static int word(String codes) {
        int w = 0;
        for (int k = 0; k < codes.length(); k++) {
            w |= codes.charAt(k) << 8 * k;
        }
        return w;
    }

    /** The letter of the fault, "-1", or the lengths in [ ] and the elements of the result. */
    static String outcome(RankCalc calc, String text) {
        say(calc, text);
        return outcomeOfRun(calc);
    }

    static String outcomeOfRun(RankCalc calc) {
        int answer;
        try {
            answer = calc.run();
        } catch (RuntimeException e) {
            return letter(e);
        }
        if (answer == -1) {
            return "-1";
        }
        return answer == calc.size() ? result(calc) : "run answers " + answer + " for " + result(calc);
    }

    /** Asks for the very class: what throws by itself is often of a subclass. */
    static String letter(RuntimeException e) {
        Class<?> c = e.getClass();
        return c == IllegalStateException.class ? "S"
                : c == ArithmeticException.class && e.getMessage() == null ? "D"
                : c == IllegalArgumentException.class ? "L"
                : c == UnsupportedOperationException.class ? "R"
                : c == IndexOutOfBoundsException.class ? "X"
                : c == NoSuchElementException.class ? "N"
                : e.toString();
    }

    static String result(RankCalc calc) {
        StringBuilder told = new StringBuilder("[");
        for (int k = 0; k < calc.rank(); k++) {
            told.append(k == 0 ? "" : " ").append(calc.axis(k));
        }
        told.append("]");
        for (int k = 0; k < calc.size(); k++) {
            told.append(" ").append(calc.element(k));
        }
        return told.toString();
    }

    /** Runs a text on a new object. */
    void text(String text, String want) {
        same("'" + text + "'", outcome(new RankCalc(), text), want);
    }

    void same(String what, Object got, Object want) {
        if (got.equals(want)) {
            right++;
        } else {
            wrong++;
            if (wrong <= 50) {
                System.out.println(what + " answered " + got + ", due is " + want);
            }
        }
    }

    void end() {
        System.out.println(right + " answers as due, " + wrong + " not");
        if (wrong != 0) {
            System.exit(1);
        }
    }
}
