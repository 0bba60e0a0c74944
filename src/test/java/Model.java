import java.math.BigInteger;
import java.util.ArrayList;
import java.util.Arrays;
import java.util.List;
import java.util.function.Function;

/**
 * The document read a second time, by other means than the class: a tree that is made by recursion,
 * numbers without a bound, and arrays as functions of their positions. Slow, and only for tests.
 */
final class Model {
    /** What ends an evaluation; the message is the letter of the fault. */
    static final class Fault extends RuntimeException {
        private static final long serialVersionUID = 1;

        Fault(String letter) {
            super(letter, null, false, false);
        }
    }

    private static final class NoStatement extends RuntimeException {
        private static final long serialVersionUID = 1;

        NoStatement() {
            super(null, null, false, false);
        }
    }

    record Value(List<Integer> shape, List<BigInteger> items) {
        int rank() {
            return shape.size();
        }

        int last() {
            return shape.get(shape.size() - 1);
        }

        BigInteger at(List<Integer> position) {
            int place = 0;
            for (int k = 0; k < shape.size(); k++) {
                place = place * shape.get(k) + position.get(k);
            }
            return items.get(place);
        }
    }

    /** An expression: its left term or null, its function or null, its right part or its term. */
    private record Node(Node left, String function, Node right, String name, List<BigInteger> numbers) { }

    private static final String NUMERIC = "+-*%|<>=&^";

    private final Value[] names = new Value[8];
    private Value result = new Value(List.of(0), List.of());
    private String text = "";
    private int functionsDone;
    private List<String> tokens = List.of();
    private int next;

    int feed(int w) {
        StringBuilder more = new StringBuilder();
        for (int k = 0; k < 4 && (w >>> 8 * k & 255) != 0; k++) {
            more.append((char) (w >>> 8 * k & 255));
        }
        if (text.length() + more.length() > 200) {
            return -1;
        }
        text += more;
        return more.length();
    }

    void clear() {
        text = "";
    }

    int held(int k) {
        return k < 0 || k > 7 || names[k] == null ? -1 : names[k].items.size();
    }

    boolean forget(int k) {
        if (held(k) < 0) {
            return false;
        }
        names[k] = null;
        return true;
    }

    int done() {
        return functionsDone;
    }

    String result() {
        return told(result);
    }

    BigInteger sum() {
        return result.items.stream().reduce(BigInteger.ZERO, BigInteger::add);
    }

    private static String told(Value value) {
        StringBuilder told = new StringBuilder(value.shape.toString().replace(",", ""));
        value.items.forEach(item -> told.append(" ").append(item));
        return told.toString();
    }

    String run() {
        int target = -1;
        Node tree;
        try {
            tokens = cut(text);
            next = 0;
            if (tokens.size() > 1 && isName(tokens.get(0)) && tokens.get(1).equals(":")) {
                target = tokens.get(0).charAt(0) - 'A';
                next = 2;
            }
            tree = expression(0);
            if (next != tokens.size()) {
                throw new NoStatement();
            }
        } catch (NoStatement e) {
            return "-1";
        }
        functionsDone = 0;
        try {
            Value value = evaluate(tree);
            result = value;
            if (target >= 0) {
                names[target] = value;
            }
            return told(value);
        } catch (Fault e) {
            return e.getMessage();
        }
    }

    private static List<String> cut(String text) {
        List<String> cut = new ArrayList<>();
        java.util.regex.Matcher m =
                java.util.regex.Pattern.compile("(_?[0-9]{1,9}(?![0-9_])|[A-H():+\\-*%|<>=&^ir,tvp/\\\\.@])| ")
                        .matcher(text);
        int end = 0;
        while (m.find()) {
            if (m.start() != end) {
                throw new NoStatement();
            }
            end = m.end();
            if (m.group(1) != null) {
                cut.add(m.group(1));
            }
        }
        if (end != text.length()) {
            throw new NoStatement();
        }
        return cut;
    }

    private static boolean isName(String token) {
        return token.matches("[A-H]");
    }

    private static boolean isNumber(String token) {
        return token.matches("_?[0-9]+");
    }

    private boolean isNumeric(int at) {
        return at < tokens.size() && NUMERIC.contains(tokens.get(at));
    }

    private boolean is(int at, String signs) {
        return at < tokens.size() && signs.contains(tokens.get(at));
    }

    private Node expression(int depth) {
        if (next < tokens.size()
                && (isName(tokens.get(next)) || isNumber(tokens.get(next)) || tokens.get(next).equals("("))) {
            Node term = term(depth);
            String function = functionOfTwo();
            return function == null ? term : new Node(term, function, expression(depth), null, null);
        }
        String function;
        if (isNumeric(next) && is(next + 1, "/\\")) {
            function = tokens.get(next) + tokens.get(next + 1);
        } else if (is(next, "-|*ir,tv")) {
            function = tokens.get(next);
        } else {
            throw new NoStatement();
        }
        next += function.length();
        return new Node(null, function, expression(depth), null, null);
    }

    private String functionOfTwo() {
        String function = null;
        if (isNumeric(next) && is(next + 1, ".")) {
            if (!isNumeric(next + 2)) {
                throw new NoStatement();
            }
            function = tokens.get(next) + "." + tokens.get(next + 2);
        } else if (isNumeric(next) && is(next + 1, "@")) {
            function = tokens.get(next) + "@";
        } else if (isNumeric(next) || is(next, "r,p")) {
            function = tokens.get(next);
        }
        next += function == null ? 0 : function.length();
        return function;
    }

    private Node term(int depth) {
        String token = tokens.get(next);
        if (isName(token)) {
            next++;
            return new Node(null, null, null, token, null);
        }
        if (token.equals("(")) {
            if (depth == 6) {
                throw new NoStatement();
            }
            next++;
            Node inside = expression(depth + 1);
            if (!is(next, ")")) {
                throw new NoStatement();
            }
            next++;
            return inside;
        }
        List<BigInteger> numbers = new ArrayList<>();
        for (; next < tokens.size() && isNumber(tokens.get(next)); next++) {
            numbers.add(new BigInteger(tokens.get(next).replace('_', '-')));
        }
        return new Node(null, null, null, null, numbers);
    }

    private Value evaluate(Node node) {
        if (node.name != null) {
            Value held = names[node.name.charAt(0) - 'A'];
            need(held != null, "N");
            return held;
        }
        if (node.numbers != null) {
            List<Integer> shape = node.numbers.size() == 1 ? List.of() : List.of(node.numbers.size());
            return make(shape, position -> node.numbers.get(position.isEmpty() ? 0 : position.get(0)));
        }
        Value right = evaluate(node.right);
        Value left = node.left == null ? null : evaluate(node.left);
        Value value = left == null ? ofOne(node.function, right) : ofTwo(node.function, left, right);
        functionsDone++;
        return value;
    }

    private static void need(boolean fine, String letter) {
        if (!fine) {
            throw new Fault(letter);
        }
    }

    private static void needSize(List<Integer> shape) {
        long count = 1;
        for (int length : shape) {
            need(length <= 48, "S");
            count *= length;
        }
        need(count <= 48, "S");
    }

    private static List<List<Integer>> positions(List<Integer> shape) {
        List<List<Integer>> all = List.of(List.of());
        for (int length : shape) {
            List<List<Integer>> longer = new ArrayList<>();
            for (List<Integer> one : all) {
                for (int k = 0; k < length; k++) {
                    longer.add(chain(one, List.of(k)));
                }
            }
            all = longer;
        }
        return all;
    }

    private static Value make(List<Integer> shape, Function<List<Integer>, BigInteger> item) {
        needSize(shape);
        List<BigInteger> items = new ArrayList<>();
        for (List<Integer> position : positions(shape)) {
            items.add(item.apply(position));
        }
        return new Value(shape, items);
    }

    private static <T> List<T> chain(List<T> a, List<T> b) {
        List<T> both = new ArrayList<>(a);
        both.addAll(b);
        return both;
    }

    private static <T> List<T> front(List<T> list) {
        return list.subList(0, list.size() - 1);
    }

    private static <T> List<T> rest(List<T> list) {
        return list.subList(1, list.size());
    }

    private static BigInteger fit(BigInteger exact) {
        need(exact.bitLength() <= 31, "S");
        return exact;
    }

    private static BigInteger truth(boolean is) {
        return is ? BigInteger.ONE : BigInteger.ZERO;
    }

    private static BigInteger work(char f, BigInteger a, BigInteger b) {
        switch (f) {
            case '+': return fit(a.add(b));
            case '-': return fit(a.subtract(b));
            case '*': return fit(a.multiply(b));
            case '%':
                need(b.signum() != 0 && a.remainder(b).signum() == 0, "D");
                return fit(a.divide(b));
            case '|': return a.signum() == 0 ? b : fit(b.subtract(a.multiply(floor(b, a))));
            case '<': return truth(a.compareTo(b) < 0);
            case '>': return truth(a.compareTo(b) > 0);
            case '=': return truth(a.equals(b));
            case '&': return a.min(b);
            default: return a.max(b);
        }
    }

    private static BigInteger floor(BigInteger b, BigInteger a) {
        BigInteger[] parts = b.divideAndRemainder(a);
        boolean below = parts[1].signum() != 0 && parts[1].signum() != a.signum();
        return below ? parts[0].subtract(BigInteger.ONE) : parts[0];
    }

    private static BigInteger fold(char f, List<BigInteger> row) {
        if (row.isEmpty()) {
            need(f == '+' || f == '*', "D");
            return truth(f == '*');
        }
        return row.size() == 1 ? row.get(0) : work(f, row.get(0), fold(f, rest(row)));
    }

    private static List<BigInteger> rowAt(Value value, List<Integer> start, int n) {
        List<BigInteger> row = new ArrayList<>();
        for (int k = 0; k < n; k++) {
            row.add(value.at(chain(start, List.of(k))));
        }
        return row;
    }

    private static Value ofOne(String function, Value right) {
        char f = function.charAt(0);
        if (function.endsWith("/")) {
            return right.rank() == 0 ? right
                    : make(front(right.shape), at -> fold(f, rowAt(right, at, right.last())));
        }
        if (function.endsWith("\\")) {
            return right.rank() == 0 ? right
                    : make(right.shape, at -> fold(f, rowAt(right, front(at), at.get(at.size() - 1) + 1)));
        }
        switch (f) {
            case '-': return make(right.shape, at -> fit(right.at(at).negate()));
            case '|': return make(right.shape, at -> fit(right.at(at).abs()));
            case '*': return make(right.shape, at -> BigInteger.valueOf(right.at(at).signum()));
            case 'i': return upTo(right);
            case 'r': return make(List.of(right.rank()), at -> BigInteger.valueOf(right.shape.get(at.get(0))));
            case ',': return make(List.of(right.items.size()), at -> right.items.get(at.get(0)));
            case 't': return make(reversed(right.shape), at -> right.at(reversed(at)));
            default: return right.rank() == 0 ? right : make(right.shape,
                    at -> right.at(chain(front(at), List.of(right.last() - 1 - at.get(at.size() - 1)))));
        }
    }

    private static List<Integer> reversed(List<Integer> list) {
        List<Integer> reversed = new ArrayList<>(list);
        java.util.Collections.reverse(reversed);
        return reversed;
    }

    private static Value upTo(Value right) {
        need(right.rank() <= 1, "R");
        need(right.items.size() == 1, "L");
        int n = right.items.get(0).intValueExact();
        need(n >= 0, "D");
        return make(List.of(n), at -> BigInteger.valueOf(at.get(0)));
    }

    private static Value ofTwo(String function, Value left, Value right) {
        char f = function.charAt(0);
        int ranks = left.rank() + right.rank();
        if (function.endsWith("@")) {
            need(ranks <= 3, "R");
            return make(chain(left.shape, right.shape), at -> work(f,
                    left.at(at.subList(0, left.rank())), right.at(at.subList(left.rank(), ranks))));
        }
        if (function.length() == 3) {
            return inner(f, function.charAt(2), left, right);
        }
        switch (f) {
            case 'r': return reshape(left, right);
            case ',': return join(left, right);
            case 'p': return pick(left, right);
            default: return each(f, left, right);
        }
    }

    private static Value each(char f, Value left, Value right) {
        if (left.rank() == 0) {
            return make(right.shape, at -> work(f, left.items.get(0), right.at(at)));
        }
        if (right.rank() == 0) {
            return make(left.shape, at -> work(f, left.at(at), right.items.get(0)));
        }
        need(left.rank() == right.rank(), "R");
        need(left.shape.equals(right.shape), "L");
        return make(left.shape, at -> work(f, left.at(at), right.at(at)));
    }

    private static Value inner(char f, char g, Value left, Value right) {
        need(left.rank() > 0 && right.rank() > 0 && left.rank() + right.rank() <= 5, "R");
        need(left.last() == right.shape.get(0), "L");
        return make(chain(front(left.shape), rest(right.shape)), at -> {
            List<BigInteger> row = new ArrayList<>();
            for (int k = 0; k < left.last(); k++) {
                row.add(work(g, left.at(chain(at.subList(0, left.rank() - 1), List.of(k))),
                        right.at(chain(List.of(k), at.subList(left.rank() - 1, at.size())))));
            }
            return fold(f, row);
        });
    }

    private static Value reshape(Value left, Value right) {
        need(left.rank() <= 1 && left.items.size() <= 3, "R");
        List<Integer> shape = new ArrayList<>();
        for (BigInteger item : left.items) {
            need(item.signum() >= 0, "D");
            shape.add(item.intValueExact());
        }
        needSize(shape);
        need(!right.items.isEmpty() || shape.contains(0), "L");
        int[] from = {0};
        return make(shape, at -> right.items.get(from[0]++ % right.items.size()));
    }

    private static Value join(Value left, Value right) {
        if (left.rank() == 0 && right.rank() == 0) {
            return new Value(List.of(2), Arrays.asList(left.items.get(0), right.items.get(0)));
        }
        if (left.rank() == 0) {
            return glue(stretched(left, right), right);
        }
        if (right.rank() == 0) {
            return glue(left, stretched(right, left));
        }
        int more = left.rank() - right.rank();
        need(more >= -1 && more <= 1, "R");
        return glue(more < 0 ? deepened(left) : left, more > 0 ? deepened(right) : right);
    }

    private static Value stretched(Value scalar, Value other) {
        List<Integer> shape = chain(front(other.shape), List.of(1));
        needSize(shape);
        return make(shape, at -> scalar.items.get(0));
    }

    private static Value deepened(Value value) {
        return new Value(chain(value.shape, List.of(1)), value.items);
    }

    private static Value glue(Value left, Value right) {
        need(front(left.shape).equals(front(right.shape)), "L");
        return make(chain(front(left.shape), List.of(left.last() + right.last())), at -> {
            int place = at.get(at.size() - 1);
            return place < left.last() ? left.at(at)
                    : right.at(chain(front(at), List.of(place - left.last())));
        });
    }

    private static Value pick(Value left, Value right) {
        need(right.rank() > 0 && left.rank() + right.rank() <= 4, "R");
        List<Integer> shape = chain(left.shape, rest(right.shape));
        needSize(shape);
        for (BigInteger index : left.items) {
            need(index.signum() >= 0 && index.compareTo(BigInteger.valueOf(right.shape.get(0))) < 0, "X");
        }
        return make(shape, at -> right.at(chain(
                List.of(left.at(at.subList(0, left.rank())).intValueExact()), at.subList(left.rank(), at.size()))));
    }
}
