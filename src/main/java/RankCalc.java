import java.util.NoSuchElementException;

/**
 * A calculator for whole arrays: a text is fed, run as one statement, and its result looked at.
 *
 * <p>Every row that a call needs is made with the object and used again, so that no call makes
 * anything but the exception that it throws.
 */
public final class RankCalc {
    private static final int NONE = -1;
    private static final int MOST_AXES = 3;
    private static final int MOST_CELLS = 48;
    private static final int MOST_CODES = 200;
    private static final int MOST_NAMES = 8;
    private static final int MOST_DEPTH = 6;
    private static final long NO_ELEMENT = 4294967296L;

    private static final String NUMBER_FUNCTIONS = "+-*%|<>=&^";
    private static final String OTHERS_OF_ONE = "ir,tv";
    private static final String OTHERS_OF_TWO = "r,p";
    private static final String NUMBER_FUNCTIONS_OF_ONE = "-|*";

    private final Statement statement = new Statement();
    private final Names names = new Names();
    private final Bench bench = new Bench();
    private final Grid result = new Grid();

    public RankCalc() {
    }

    public int feed(int w) {
        return statement.text.append(w);
    }

    public void clear() {
        statement.text.length = 0;
    }

    public int run() throws IllegalStateException, ArithmeticException, IllegalArgumentException,
            UnsupportedOperationException, IndexOutOfBoundsException, NoSuchElementException {
        if (!statement.read()) {
            return -1;
        }
        Grid answer = bench.evaluate(statement, names);
        result.copy(answer);
        if (statement.target != NONE) {
            names.put(statement.target, answer);
        }
        return result.count;
    }

    public int rank() {
        return result.axes;
    }

    public int axis(int k) {
        return k >= 0 && k < result.axes ? result.lengths[k] : -1;
    }

    public int size() {
        return result.count;
    }

    public long element(int k) {
        return k >= 0 && k < result.count ? result.cells[k] : NO_ELEMENT;
    }

    public long sum() {
        long total = 0;
        for (int k = 0; k < result.count; k++) {
            total += result.cells[k];
        }
        return total;
    }

    public int held(int k) {
        return names.has(k) ? names.grids[k].count : -1;
    }

    public boolean forget(int k) {
        if (!names.has(k)) {
            return false;
        }
        names.taken[k] = false;
        return true;
    }

    public int done() {
        return bench.finished;
    }

    /** The codes that were fed. */
    private static final class Text {
        private final char[] codes = new char[MOST_CODES];
        private int length;

        int append(int w) {
            int n = leadingCodes(w);
            if (length + n > MOST_CODES) {
                return -1;
            }
            for (int k = 0; k < n; k++) {
                codes[length + k] = (char) (w >> 8 * k & 255);
            }
            length += n;
            return n;
        }

        private static int leadingCodes(int w) {
            for (int k = 0; k < 4; k++) {
                if ((w >> 8 * k & 255) == 0) {
                    return k;
                }
            }
            return 4;
        }

        /** The code at k, or 0, which is no code of a text, behind its end. */
        char codeAt(int k) {
            return k >= 0 && k < length ? codes[k] : (char) 0;
        }
    }

    /** The eight names and what they hold. */
    private static final class Names {
        private final Grid[] grids = new Grid[MOST_NAMES];
        private final boolean[] taken = new boolean[MOST_NAMES];

        Names() {
            for (int k = 0; k < MOST_NAMES; k++) {
                grids[k] = new Grid();
            }
        }

        boolean has(int k) {
            return k >= 0 && k < MOST_NAMES && taken[k];
        }

        void put(int k, Grid grid) {
            grids[k].copy(grid);
            taken[k] = true;
        }

        Grid find(int k) {
            if (!has(k)) {
                throw new NoSuchElementException();
            }
            return grids[k];
        }
    }

    /**
     * An array: its lengths, and its elements in a row, the last axis running fastest. A new one is the
     * vector without elements, so that it can be a new object's result as it is.
     */
    private static final class Grid {
        private final int[] lengths = new int[MOST_AXES];
        private final int[] cells = new int[MOST_CELLS];
        private int axes = 1;
        private int count;

        /** Makes this a scalar, to which the axes are then added. */
        void restart() {
            axes = 0;
            count = 1;
        }

        /** The count may be too high for a while: a later axis of length 0 brings it down again. */
        void addAxis(int length) {
            if (length > MOST_CELLS) {
                throw new IllegalStateException();
            }
            lengths[axes] = length;
            axes++;
            count *= length;
        }

        void addAxesOf(Grid other, int from, int to) {
            for (int k = from; k < to; k++) {
                addAxis(other.lengths[k]);
            }
        }

        /** No cell is written before this has found that there are enough of them. */
        void endAxes() {
            if (count > MOST_CELLS) {
                throw new IllegalStateException();
            }
        }

        void shapeLike(Grid other) {
            restart();
            addAxesOf(other, 0, other.axes);
        }

        void copy(Grid other) {
            shapeLike(other);
            System.arraycopy(other.cells, 0, cells, 0, count);
        }

        /** How many positions there are along the axes from .. to - 1 together. */
        int span(int from, int to) {
            int product = 1;
            for (int k = from; k < to; k++) {
                product *= lengths[k];
            }
            return product;
        }

        boolean isScalar() {
            return axes == 0;
        }

        /** The length of a row; a scalar counts as one row of one element. */
        int rowLength() {
            return axes == 0 ? 1 : lengths[axes - 1];
        }

        /** The element that goes with position k of another array. */
        int cellFor(int k) {
            return axes == 0 ? cells[0] : cells[k];
        }
    }

    /** The text, and the steps that it is cut into, in its order. */
    private static final class Statement {
        private static final int NUMBERS = 0;
        private static final int NAME = 1;
        private static final int OPEN = 2;
        private static final int CLOSE = 3;
        private static final int OF_ONE = 4;
        private static final int OF_TWO = 5;
        private static final int MOST_DIGITS = 9;

        private final Text text = new Text();
        private final int[] kinds = new int[MOST_CODES];
        /** Of numbers where they start, of a name which it is. */
        private final int[] places = new int[MOST_CODES];
        /** Of numbers how many they are. */
        private final int[] amounts = new int[MOST_CODES];
        /** Of a function its first sign, what it is put to (or 0), and the sign behind a point. */
        private final char[] signs = new char[MOST_CODES];
        private final char[] forms = new char[MOST_CODES];
        private final char[] seconds = new char[MOST_CODES];
        private final int[] numbers = new int[MOST_CODES];
        private int steps;
        private int numberCount;
        private int target;
        private int at;
        private int depth;
        private boolean wanting;

        /** Whether the text is a statement; if it is, the steps are those of its expression. */
        boolean read() {
            at = 0;
            steps = 0;
            numberCount = 0;
            depth = 0;
            wanting = true;
            readTarget();
            for (int turn = 0; turn < MOST_CODES && at < text.length; turn++) {
                if (!(wanting ? readStart() : readBehindTerm())) {
                    return false;
                }
                skipBlanks();
            }
            return !wanting && depth == 0;
        }

        private void readTarget() {
            target = NONE;
            skipBlanks();
            int start = at;
            char name = text.codeAt(at);
            at++;
            skipBlanks();
            if (isName(name) && text.codeAt(at) == ':') {
                target = name - 'A';
                at++;
                skipBlanks();
            } else {
                at = start;
            }
        }

        /** At the start of an expression: what a term begins with, or a function of one argument. */
        private boolean readStart() {
            char sign = text.codeAt(at);
            if (isDigit(sign) || sign == '_') {
                return readNumbers();
            }
            at++;
            if (sign == '(') {
                depth++;
                addStep(OPEN);
                return depth <= MOST_DEPTH;
            }
            if (isName(sign)) {
                places[steps] = sign - 'A';
                addStep(NAME);
                wanting = false;
                return true;
            }
            return readFunctionOfOne(sign);
        }

        private boolean readBehindTerm() {
            char sign = text.codeAt(at);
            at++;
            if (sign == ')') {
                depth--;
                addStep(CLOSE);
                return depth >= 0;
            }
            wanting = true;
            return readFunctionOfTwo(sign);
        }

        private boolean readFunctionOfOne(char sign) {
            skipBlanks();
            char next = text.codeAt(at);
            if (isNumberFunction(sign) && (next == '/' || next == '\\')) {
                at++;
                addFunction(OF_ONE, sign, next, (char) 0);
                return true;
            }
            addFunction(OF_ONE, sign, (char) 0, (char) 0);
            return NUMBER_FUNCTIONS_OF_ONE.indexOf(sign) >= 0 || OTHERS_OF_ONE.indexOf(sign) >= 0;
        }

        private boolean readFunctionOfTwo(char sign) {
            if (!isNumberFunction(sign)) {
                addFunction(OF_TWO, sign, (char) 0, (char) 0);
                return OTHERS_OF_TWO.indexOf(sign) >= 0;
            }
            skipBlanks();
            char next = text.codeAt(at);
            if (next == '.') {
                at++;
                skipBlanks();
                char second = text.codeAt(at);
                at++;
                addFunction(OF_TWO, sign, next, second);
                return isNumberFunction(second);
            }
            if (next == '@') {
                at++;
            }
            addFunction(OF_TWO, sign, next == '@' ? next : (char) 0, (char) 0);
            return true;
        }

        private boolean readNumbers() {
            int first = numberCount;
            for (int turn = 0; turn < MOST_CODES; turn++) {
                if (!isDigit(text.codeAt(at)) && text.codeAt(at) != '_') {
                    break;
                }
                if (!readNumber()) {
                    return false;
                }
                skipBlanks();
            }
            places[steps] = first;
            amounts[steps] = numberCount - first;
            addStep(NUMBERS);
            wanting = false;
            return true;
        }

        private boolean readNumber() {
            boolean negative = text.codeAt(at) == '_';
            if (negative) {
                at++;
            }
            int value = 0;
            int digits = 0;
            for (; digits < MOST_DIGITS && isDigit(text.codeAt(at)); digits++) {
                value = 10 * value + (text.codeAt(at) - '0');
                at++;
            }
            numbers[numberCount] = negative ? -value : value;
            numberCount++;
            return digits > 0 && !isDigit(text.codeAt(at)) && text.codeAt(at) != '_';
        }

        private void skipBlanks() {
            for (int turn = 0; turn < MOST_CODES && text.codeAt(at) == ' '; turn++) {
                at++;
            }
        }

        /** Each step takes a code of the text at least, so there is a place for every one. */
        private void addStep(int kind) {
            kinds[steps] = kind;
            steps++;
        }

        private void addFunction(int kind, char sign, char form, char second) {
            signs[steps] = sign;
            forms[steps] = form;
            seconds[steps] = second;
            addStep(kind);
        }

        private static boolean isDigit(char sign) {
            return sign >= '0' && sign <= '9';
        }

        private static boolean isName(char sign) {
            return sign >= 'A' && sign < 'A' + MOST_NAMES;
        }

        private static boolean isNumberFunction(char sign) {
            return NUMBER_FUNCTIONS.indexOf(sign) >= 0;
        }
    }

    /**
     * Takes the steps of a statement from the last to the first, which is the order in which they
     * are to be evaluated: what stands on the right, then the term on the left, then the function.
     */
    private static final class Bench {
        /** One right argument may wait at each depth, and the innermost function has two. */
        private static final int MOST_VALUES = MOST_DEPTH + 2;

        private final Grid[] values = new Grid[MOST_VALUES];
        /** At each depth the step of the function of two that waits for its left argument. */
        private final int[] waiting = new int[MOST_DEPTH + 1];
        private final int[] row = new int[MOST_CELLS];
        private Grid spare = new Grid();
        private int height;
        private int level;
        private int finished;

        Bench() {
            for (int k = 0; k < MOST_VALUES; k++) {
                values[k] = new Grid();
            }
        }

        Grid evaluate(Statement statement, Names names) {
            height = 0;
            level = 0;
            finished = 0;
            waiting[0] = NONE;
            for (int k = statement.steps - 1; k >= 0; k--) {
                if (statement.kinds[k] == Statement.OF_ONE) {
                    workOnOne(statement, k);
                } else if (endsTerm(statement, k, names) && waiting[level] != NONE) {
                    workOnTwo(statement, waiting[level]);
                    waiting[level] = NONE;
                }
            }
            return values[0];
        }

        /** Takes a step; whether a term is whole with it, so that a function of two may be done. */
        private boolean endsTerm(Statement statement, int k, Names names) {
            switch (statement.kinds[k]) {
                case Statement.CLOSE:
                    level++;
                    waiting[level] = NONE;
                    return false;
                case Statement.OF_TWO:
                    waiting[level] = k;
                    return false;
                case Statement.OPEN:
                    level--;
                    return true;
                case Statement.NAME:
                    values[height].copy(names.find(statement.places[k]));
                    height++;
                    return true;
                default:
                    pushNumbers(statement, k);
                    return true;
            }
        }

        private void pushNumbers(Statement statement, int k) {
            int amount = statement.amounts[k];
            Grid grid = values[height];
            grid.restart();
            if (amount > 1) {
                grid.addAxis(amount);
            }
            System.arraycopy(statement.numbers, statement.places[k], grid.cells, 0, amount);
            height++;
        }

        private void workOnOne(Statement statement, int k) {
            char sign = statement.signs[k];
            char form = statement.forms[k];
            Grid right = values[height - 1];
            spare.restart();
            if (form == '/') {
                Numbers.reduce(sign, right, spare);
            } else if (form == '\\') {
                Numbers.scan(sign, right, spare);
            } else if (OTHERS_OF_ONE.indexOf(sign) >= 0) {
                Shapes.ofOne(sign, right, spare);
            } else {
                Numbers.eachOfOne(sign, right, spare);
            }
            putSpare();
        }

        /** The left argument was evaluated last, so it lies above the right one. */
        private void workOnTwo(Statement statement, int k) {
            char sign = statement.signs[k];
            char form = statement.forms[k];
            Grid left = values[height - 1];
            Grid right = values[height - 2];
            spare.restart();
            if (form == '.') {
                Numbers.inner(sign, statement.seconds[k], left, right, spare, row);
            } else if (form == '@') {
                Numbers.outer(sign, left, right, spare);
            } else if (OTHERS_OF_TWO.indexOf(sign) >= 0) {
                Shapes.ofTwo(sign, left, right, spare);
            } else {
                Numbers.each(sign, left, right, spare);
            }
            height--;
            putSpare();
        }

        private void putSpare() {
            Grid used = values[height - 1];
            values[height - 1] = spare;
            spare = used;
            finished++;
        }
    }

    /** The number functions, and what is made of them for arrays. */
    private static final class Numbers {
        static int fit(long exact) {
            if (exact != (int) exact) {
                throw new IllegalStateException();
            }
            return (int) exact;
        }

        static void needDivides(int b, int a) {
            if (b == 0 || a % b != 0) {
                throw new ArithmeticException();
            }
        }

        static int work(char f, int a, int b) {
            switch (f) {
                case '+':
                    return fit((long) a + b);
                case '-':
                    return fit((long) a - b);
                case '*':
                    return fit((long) a * b);
                case '%':
                    needDivides(b, a);
                    return fit((long) a / b);
                case '|':
                    return a == 0 ? b : Math.floorMod(b, a);
                case '<':
                    return a < b ? 1 : 0;
                case '>':
                    return a > b ? 1 : 0;
                case '=':
                    return a == b ? 1 : 0;
                case '&':
                    return Math.min(a, b);
                default:
                    return Math.max(a, b);
            }
        }

        static int workAlone(char f, int a) {
            switch (f) {
                case '-':
                    return fit(-(long) a);
                case '|':
                    return fit(a < 0 ? -(long) a : a);
                default:
                    return a > 0 ? 1 : a < 0 ? -1 : 0;
            }
        }

        /** What f/ makes of the n cells from start on. */
        static int fold(char f, int[] cells, int start, int n) {
            if (n == 0) {
                return ofNothing(f);
            }
            int folded = cells[start + n - 1];
            for (int k = n - 2; k >= 0; k--) {
                folded = work(f, cells[start + k], folded);
            }
            return folded;
        }

        static int ofNothing(char f) {
            if (f != '+' && f != '*') {
                throw new ArithmeticException();
            }
            return f == '+' ? 0 : 1;
        }

        static void eachOfOne(char f, Grid right, Grid out) {
            out.shapeLike(right);
            for (int k = 0; k < out.count; k++) {
                out.cells[k] = workAlone(f, right.cells[k]);
            }
        }

        static void each(char f, Grid left, Grid right, Grid out) {
            if (!left.isScalar() && !right.isScalar()) {
                needSameShape(left, right);
            }
            out.shapeLike(left.isScalar() ? right : left);
            for (int k = 0; k < out.count; k++) {
                out.cells[k] = work(f, left.cellFor(k), right.cellFor(k));
            }
        }

        static void needSameShape(Grid left, Grid right) {
            if (left.axes != right.axes) {
                throw new UnsupportedOperationException();
            }
            for (int k = 0; k < left.axes; k++) {
                if (left.lengths[k] != right.lengths[k]) {
                    throw new IllegalArgumentException();
                }
            }
        }

        static void reduce(char f, Grid right, Grid out) {
            int n = right.rowLength();
            out.addAxesOf(right, 0, right.axes - 1);
            out.endAxes();
            for (int k = 0; k < out.count; k++) {
                out.cells[k] = fold(f, right.cells, k * n, n);
            }
        }

        static void scan(char f, Grid right, Grid out) {
            int n = right.rowLength();
            out.shapeLike(right);
            int start = 0;
            for (int k = 0; k < out.count; k++) {
                if (k == start + n) {
                    start = k;
                }
                out.cells[k] = fold(f, right.cells, start, k - start + 1);
            }
        }

        /** Row is a place for the n results of g that f is then put between. */
        static void inner(char f, char g, Grid left, Grid right, Grid out, int[] row) {
            if (left.isScalar() || right.isScalar() || left.axes + right.axes > MOST_AXES + 2) {
                throw new UnsupportedOperationException();
            }
            int n = left.rowLength();
            if (n != right.lengths[0]) {
                throw new IllegalArgumentException();
            }
            out.addAxesOf(left, 0, left.axes - 1);
            out.addAxesOf(right, 1, right.axes);
            out.endAxes();
            int columns = right.span(1, right.axes);
            int line = 0;
            int column = 0;
            for (int k = 0; k < out.count; k++) {
                for (int j = 0; j < n; j++) {
                    row[j] = work(g, left.cells[line * n + j], right.cells[j * columns + column]);
                }
                out.cells[k] = fold(f, row, 0, n);
                column++;
                if (column == columns) {
                    column = 0;
                    line++;
                }
            }
        }

        static void outer(char f, Grid left, Grid right, Grid out) {
            if (left.axes + right.axes > MOST_AXES) {
                throw new UnsupportedOperationException();
            }
            out.addAxesOf(left, 0, left.axes);
            out.addAxesOf(right, 0, right.axes);
            out.endAxes();
            int k = 0;
            for (int i = 0; i < left.count; i++) {
                for (int j = 0; j < right.count; j++) {
                    out.cells[k] = work(f, left.cells[i], right.cells[j]);
                    k++;
                }
            }
        }
    }

    /** The functions that make, shape, join and choose. They get a scalar to put axes to. */
    private static final class Shapes {
        static void ofOne(char sign, Grid right, Grid out) {
            switch (sign) {
                case 'i':
                    upTo(right, out);
                    break;
                case 'r':
                    lengthsOf(right, out);
                    break;
                case ',':
                    out.addAxis(right.count);
                    System.arraycopy(right.cells, 0, out.cells, 0, right.count);
                    break;
                case 't':
                    turnAxes(right, out);
                    break;
                default:
                    turnRows(right, out);
                    break;
            }
        }

        static void ofTwo(char sign, Grid left, Grid right, Grid out) {
            switch (sign) {
                case 'r':
                    reshape(left, right, out);
                    break;
                case ',':
                    join(left, right, out);
                    break;
                default:
                    pick(left, right, out);
                    break;
            }
        }

        static void upTo(Grid right, Grid out) {
            if (right.axes > 1) {
                throw new UnsupportedOperationException();
            }
            if (right.count != 1) {
                throw new IllegalArgumentException();
            }
            if (right.cells[0] < 0) {
                throw new ArithmeticException();
            }
            out.addAxis(right.cells[0]);
            for (int k = 0; k < out.count; k++) {
                out.cells[k] = k;
            }
        }

        static void lengthsOf(Grid right, Grid out) {
            out.addAxis(right.axes);
            System.arraycopy(right.lengths, 0, out.cells, 0, right.axes);
        }

        /** Axes of length 1 put before the first stand for those that a lower rank has not. */
        static void turnAxes(Grid right, Grid out) {
            for (int k = right.axes - 1; k >= 0; k--) {
                out.addAxis(right.lengths[k]);
            }
            int planes = right.axes < 3 ? 1 : right.lengths[0];
            int lines = right.axes < 2 ? 1 : right.lengths[right.axes - 2];
            int columns = right.rowLength();
            int k = 0;
            for (int column = 0; column < columns; column++) {
                for (int line = 0; line < lines; line++) {
                    for (int plane = 0; plane < planes; plane++) {
                        out.cells[k] = right.cells[(plane * lines + line) * columns + column];
                        k++;
                    }
                }
            }
        }

        static void turnRows(Grid right, Grid out) {
            int n = right.rowLength();
            out.shapeLike(right);
            int start = 0;
            for (int k = 0; k < out.count; k++) {
                if (k == start + n) {
                    start = k;
                }
                out.cells[k] = right.cells[start + n - 1 - (k - start)];
            }
        }

        static void reshape(Grid left, Grid right, Grid out) {
            if (left.axes > 1 || left.count > MOST_AXES) {
                throw new UnsupportedOperationException();
            }
            for (int k = 0; k < left.count; k++) {
                if (left.cells[k] < 0) {
                    throw new ArithmeticException();
                }
            }
            for (int k = 0; k < left.count; k++) {
                out.addAxis(left.cells[k]);
            }
            out.endAxes();
            if (right.count == 0 && out.count > 0) {
                throw new IllegalArgumentException();
            }
            int from = 0;
            for (int k = 0; k < out.count; k++) {
                out.cells[k] = right.cells[from];
                from = from + 1 == right.count ? 0 : from + 1;
            }
        }

        static void join(Grid left, Grid right, Grid out) {
            int axes = Math.max(1, Math.max(left.axes, right.axes));
            Grid whole = left.axes == axes ? left : right;
            needJoinable(left, right, axes);
            int leftWidth = left.axes == axes ? left.rowLength() : 1;
            int rightWidth = right.axes == axes ? right.rowLength() : 1;
            out.addAxesOf(whole, 0, axes - 1);
            out.addAxis(leftWidth + rightWidth);
            out.endAxes();
            int fromLeft = 0;
            int fromRight = 0;
            int place = 0;
            for (int k = 0; k < out.count; k++) {
                if (place < leftWidth) {
                    out.cells[k] = left.cellFor(fromLeft);
                    fromLeft++;
                } else {
                    out.cells[k] = right.cellFor(fromRight);
                    fromRight++;
                }
                place = place + 1 == leftWidth + rightWidth ? 0 : place + 1;
            }
        }

        static void needJoinable(Grid left, Grid right, int axes) {
            if (left.isScalar() || right.isScalar()) {
                return;
            }
            if (left.axes < axes - 1 || right.axes < axes - 1) {
                throw new UnsupportedOperationException();
            }
            for (int k = 0; k < axes - 1; k++) {
                if (left.lengths[k] != right.lengths[k]) {
                    throw new IllegalArgumentException();
                }
            }
        }

        static void pick(Grid left, Grid right, Grid out) {
            if (right.isScalar() || left.axes + right.axes > MOST_AXES + 1) {
                throw new UnsupportedOperationException();
            }
            out.addAxesOf(left, 0, left.axes);
            out.addAxesOf(right, 1, right.axes);
            out.endAxes();
            int part = right.span(1, right.axes);
            for (int k = 0; k < left.count; k++) {
                int index = left.cells[k];
                if (index < 0 || index >= right.lengths[0]) {
                    throw new IndexOutOfBoundsException();
                }
                System.arraycopy(right.cells, index * part, out.cells, k * part, part);
            }
        }
    }
}
