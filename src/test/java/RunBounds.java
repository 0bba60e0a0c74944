/** The sentences of promise 4 itself, and of its terms those on arrays, evaluation and faults. */
final class RunBounds {
    private static final String[] SIX = {"S", "D", "L", "R", "X", "N"};
    private static final String[] FAULTY = {"i49", "1%0", "1 2+1 2 3", "1 2+2 2r1", "2p1 2", "H"};

    private final Sentences doc;

    RunBounds(Sentences doc) {
        this.doc = doc;
    }

    void ask() {
        noStatement();
        result();
        fault();
        overview();
        arrays();
        evaluate();
        tooMuch();
        otherFaults();
        firstFault();
    }

    private void noStatement() {
        doc.promise(4, "-1 if the text is not a statement (nothing is evaluated then).");
        RankCalc calc = new RankCalc();
        doc.on(calc, "A:2 2r1 2 3+0", "[2 2] 1 2 3 1");
        for (String text : new String[] {"", " ", "A:", "A:5+", "A:5)", "A:(5", "C:5 A", "A:B:5", "I:5"}) {
            doc.on(calc, text, "-1");
            doc.same("again " + text, calc.run(), -1);
            doc.same("result after " + text, Check.result(calc), "[2 2] 1 2 3 1");
            doc.same("done after " + text, calc.done(), 2);
            doc.same("A after " + text, calc.held(0), 4);
            doc.same("C after " + text, calc.held(2), -1);
        }
        for (int k = 0; k < 6; k++) {
            doc.on(calc, "1+(" + FAULTY[k], "-1");
            doc.on(calc, "+" + FAULTY[k], "-1");
            doc.on(calc, FAULTY[k] + ")", "-1");
            doc.on(calc, FAULTY[k] + "?", "-1");
        }
    }

    private void result() {
        doc.promise(4, "Else evaluates its expression, which becomes the result,");
        RankCalc calc = new RankCalc();
        String[] texts = {"2 3 8ri48", "7", "48 48 0r1", "1r_5", "0 2r1", "i0", "2 2ri4"};
        String[] told = {"[2 3 8]" + row(48), "[] 7", "[48 48 0]", "[1] -5", "[0 2]", "[0]", "[2 2] 0 1 2 3"};
        for (int k = 0; k < texts.length; k++) {
            doc.on(calc, texts[k], told[k]);
            doc.same("again", Check.outcomeOfRun(calc), told[k]);
            doc.same("no name", calc.held(0), -1);
        }

        doc.promise(4, "and the array of the name if there is one before a : ;");
        for (int k = 0; k < texts.length; k++) {
            for (char name = 'A'; name <= 'H'; name += 7) {
                doc.on(calc, name + ":" + texts[k], told[k]);
                doc.on(calc, "5", "[] 5");
                doc.on(calc, "" + name, told[k]);
            }
        }
        doc.on(calc, "A:1", "[] 1");
        doc.on(calc, "A:A,A+1", "[2] 1 2");
        doc.same("A:A,A+1 once more", Check.outcomeOfRun(calc), "[4] 1 2 2 3");
        doc.on(calc, "B:A", "[4] 1 2 2 3");
        doc.on(calc, "A:0", "[] 0");
        doc.on(calc, "B", "[4] 1 2 2 3");
        doc.on(calc, "B+A:1", "-1");

        doc.promise(4, "the number of its elements.");
        int[] sizes = {48, 1, 0, 1, 0, 0, 4};
        for (int k = 0; k < texts.length; k++) {
            Check.say(calc, texts[k]);
            doc.same(texts[k], calc.run(), sizes[k]);
            Check.say(calc, "C:" + texts[k]);
            doc.same("C:" + texts[k], calc.run(), sizes[k]);
        }
    }

    private void fault() {
        doc.promise(4, "With a fault the exception; result and names are as before.");
        RankCalc calc = new RankCalc();
        doc.on(calc, "B:1 2 3", "[3] 1 2 3");
        doc.on(calc, "A:2 2r4 5 6 7", "[2 2] 4 5 6 7");
        for (int k = 0; k < 6; k++) {
            for (String before : new String[] {"", "A:", "C:", "B:-", "A:B+", "H:(i5)+"}) {
                String text = before + FAULTY[k];
                doc.on(calc, text, SIX[k]);
                doc.same("result after " + text, Check.result(calc), "[2 2] 4 5 6 7");
                doc.same("A after " + text, calc.held(0), 4);
                doc.same("B after " + text, calc.held(1), 3);
                doc.same("C after " + text, calc.held(2), -1);
                doc.same("H after " + text, calc.held(7), -1);
            }
        }
        doc.on(calc, "B", "[3] 1 2 3");
        doc.on(calc, "A", "[2 2] 4 5 6 7");
        // the first elements are worked out before the last one has its fault
        doc.on(calc, "A:A%1 1 1 0", "R");
        doc.on(calc, "A:A%2 2r1 1 1 0", "D");
        doc.on(calc, "A:0 0 9pA", "X");
        doc.on(calc, "A", "[2 2] 4 5 6 7");
    }

    private void overview() {
        doc.promise(4, "An array has a rank, a length along each axis and its elements in a row;");
        doc.text("2 1 3ri6", "[2 1 3]" + row(6));

        doc.promise(4, "a statement is read from the right to the left,"
                + " each function taking all that stands to its right as its right argument.");
        doc.text("10-5-3", "[] 8");
        doc.text("2*3+4", "[] 14");
        doc.text("-1+2", "[] -3");
        doc.text("+/1 2,3", "[] 6");
        doc.text("2-".repeat(99) + "1", "[] 1");

        doc.promise(4, "Functions on numbers work on arrays element by element,"
                + " and can be turned into reductions, scans, inner and outer products.");
        doc.text("3 4-1 2", "[2] 2 2");
        String functions = "+-*%|<>=&^";
        int[] ofOneAndOne = {2, 0, 1, 1, 0, 0, 0, 1, 1, 1};
        for (int k = 0; k < functions.length(); k++) {
            char f = functions.charAt(k);
            doc.text("1" + f + "1", "[] " + ofOneAndOne[k]);
            doc.text(f + "/1 1", "[] " + ofOneAndOne[k]);
            doc.text(f + "\\1 1", "[2] 1 " + ofOneAndOne[k]);
            doc.text("1 1" + f + ".*1 1", "[] " + ofOneAndOne[k]);
            doc.text("1 1*." + f + "1 1", "[] " + ofOneAndOne[k] * ofOneAndOne[k]);
            doc.text("1 1" + f + "@1", "[2] " + ofOneAndOne[k] + " " + ofOneAndOne[k]);
        }
    }

    private void arrays() {
        doc.promise(4, "ARRAYS have rank 0 (a SCALAR, one element), 1 (a VECTOR), 2 or 3;");
        doc.text("(i0)r5", "[] 5");
        doc.text("1r5", "[1] 5");
        doc.text("1 1r5", "[1 1] 5");
        doc.text("1 1 1r5", "[1 1 1] 5");
        doc.text("1 1 1 1r5", "R");
        doc.text("(1 1r1)+@1 1r1", "R");
        doc.text("(1 1 1r0)p1 1r1", "R");
        doc.text("(1 1 1r1)+.+1 1 1r1", "R");

        doc.promise(4, "lengths 0 .. 48;");
        doc.text("0r5", "[0]");
        doc.text("48r5", "[48]" + " 5".repeat(48));
        doc.text("49r5", "S");
        doc.text("48 48 0r5", "[48 48 0]");
        doc.text("48 0 48r5", "[48 0 48]");
        doc.text("0 48 48r5", "[0 48 48]");
        doc.text("49 0r5", "S");
        doc.text("0 49r5", "S");
        doc.text("0 0 49r5", "S");
        doc.text("49 0 0r5", "S");

        doc.promise(4, "as many elements as the product of the lengths, at most 48;");
        String[] fit = {"48", "1 48", "48 1", "6 8", "8 6", "2 24", "3 4 4", "4 4 3", "2 3 8", "48 1 1", "1 1 48"};
        for (String lengths : fit) {
            doc.text(lengths + "ri48", "[" + lengths + "]" + row(48));
        }
        String[] tooMany = {"7 7", "49", "2 25", "25 2", "5 10", "5 5 2", "48 2", "2 48", "48 48", "48 48 48", "1 7 7",
            "7 1 7", "7 7 1", "4 4 4"};
        for (String lengths : tooMany) {
            doc.text(lengths + "r1", "S");
        }
        doc.text("7 7 0r1", "[7 7 0]");
        doc.text("1 1 1r5", "[1 1 1] 5");

        doc.promise(4, "elements are ints, in a row: the last axis runs fastest.");
        doc.ends("A,B", "[2] 2147483647 -2147483648");
        doc.ends("A+1", "S");
        doc.ends("B-1", "S");
        doc.text("0p2 3ri6", "[3] 0 1 2");
        doc.text("1p2 3ri6", "[3] 3 4 5");
        doc.text("1p1p2 3 4ri24", "[4] 16 17 18 19");
        doc.text(",2 3 4ri24", "[24]" + row(24));

        doc.promise(4, "ROWS are the parts along the last axis.");
        doc.text("+/2 3ri6", "[2] 3 12");
        doc.text("v2 3ri6", "[2 3] 2 1 0 5 4 3");
        doc.text("+/3 1ri3", "[3] 0 1 2");
        doc.text("+/1 3ri3", "[1] 3");
        doc.text("+\\2 1 3ri6", "[2 1 3] 0 1 3 3 7 12");

        doc.promise(4, "There are eight NAMES, A .. H, each with an array or none.");
        RankCalc calc = new RankCalc();
        for (char name = 'A'; name <= 'H'; name++) {
            doc.on(calc, "" + name, "N");
            doc.on(calc, name + ":" + (int) name, "[] " + (int) name);
        }
        doc.on(calc, "A,B,C,D,E,F,G,H", "[8] 65 66 67 68 69 70 71 72");
        doc.noStatements("I", "I:1", "J", "Z", "@", "@:1", "a", "h", "a:1");
    }

    private void evaluate() {
        doc.promise(4, "To EVALUATE an expression its expression on the right is evaluated first,"
                + " then the term on its left if it has one, and then the function is done.");
        for (int left = 0; left < 6; left++) {
            for (int right = 0; right < 6; right++) {
                doc.text("(" + FAULTY[left] + ")+" + FAULTY[right], SIX[right]);
                doc.text("(" + FAULTY[left] + ")r(" + FAULTY[right] + ")", SIX[right]);
            }
            doc.text("(" + FAULTY[left] + ")%0", SIX[left]);
            doc.text("(" + FAULTY[left] + ")+.*0", SIX[left]);
            doc.text("-" + FAULTY[left], SIX[left]);
            doc.text("(i_1)-(" + FAULTY[left] + ")-1", SIX[left]);
        }
        // a term in ( ) is evaluated whole before the function on its right is done
        doc.text("(1%0)+(1 2+3 4)+1 2 3", "L");
        doc.text("((1%0)+H)-i49", "S");
        doc.text("((1%0)+H)-1", "N");
        doc.text("((((((1-2)-3)-4)-5)-6)-7)-8", "[] -34");
        doc.text("1-(2-(3-(4-(5-(6-(7-8)-9)-10)-11)-12)-13)-14", "[] -1");
    }

    private void tooMuch() {
        doc.promise(4, "FAULTS: S IllegalStateException, a term or a result would have a length above 48"
                + " or more than 48 elements,");
        doc.text("1 ".repeat(48), "[48]" + " 1".repeat(48));
        doc.text("1 ".repeat(49), "S");
        doc.text("1 ".repeat(100), "S");
        doc.text("H+" + "1 ".repeat(49), "S");
        doc.text("1 ".repeat(49) + "+H", "N");
        doc.text("r" + "1 ".repeat(49), "S");
        doc.text("(" + "1 ".repeat(49) + ")+1%0", "D");
        doc.text("A:" + "1 ".repeat(49), "S");
        doc.text("i48", "[48]" + row(48));
        doc.text("i49", "S");
        doc.text("(i24),24+i24", "[48]" + row(48));
        doc.text("(i24),i25", "S");
        doc.text("(0 48r1),0 0r1", "[0 48]");
        doc.text("(0 48r1),0 1r1", "S");
        doc.text("(1 48r1),1", "S");
        doc.text("(i6)+@8r1", "[6 8] " + "1 1 1 1 1 1 1 1 2 2 2 2 2 2 2 2 3 3 3 3 3 3 3 3 "
                + "4 4 4 4 4 4 4 4 5 5 5 5 5 5 5 5 6 6 6 6 6 6 6 6");
        doc.text("(i7)+@i7", "S");
        doc.text("(6 1r1)+.*1 8r1", "[6 8]" + " 1".repeat(48));
        doc.text("(7 1r1)+.*1 7r1", "S");
        doc.text("(24r0)p2 2r1", "[24 2]" + " 1".repeat(48));
        doc.text("(25r0)p2 2r1", "S");
        doc.text("+/6 8 0r1", "[6 8]" + " 0".repeat(48));
        doc.text("+/7 7 0r1", "S");

        doc.promise(4, "or what a number function makes of one or two ints is no int (all is worked out exactly);");
        doc.ends("A+0", "[] 2147483647");
        doc.ends("A+1", "S");
        doc.ends("A+A", "S");
        doc.ends("B+B", "S");
        doc.ends("A+B", "[] -1");
        doc.ends("B-A", "S");
        doc.ends("A-B", "S");
        doc.ends("B*B", "S");
        doc.ends("B%_1", "S");
        doc.ends("-B", "S");
        doc.ends("|B", "S");
        doc.ends("-A", "[] -2147483647");
        doc.ends("|-A", "[] 2147483647");
        // what would wrap round to an int again
        doc.text("65536*65536", "S");
        doc.text("999999999*999999999", "S");
        doc.ends("+/A,A,2 0", "S");
        doc.ends("+/A,1,B", "[] 0");
        doc.ends("+/B,A,1", "S");
        doc.ends("*/65536 65536 0", "[] 0");
        doc.ends("*/0 65536 65536", "S");
    }

    private void otherFaults() {
        doc.promise(4, "D ArithmeticException;");
        doc.text("1%0", "D");
        doc.text("i_1", "D");
        doc.promise(4, "L IllegalArgumentException;");
        doc.text("1 2+1 2 3", "L");
        doc.text("ii0", "L");
        doc.promise(4, "R UnsupportedOperationException;");
        doc.text("1 2+1 1r1", "R");
        doc.text("1+.*1", "R");
        doc.promise(4, "X IndexOutOfBoundsException;");
        doc.text("2p1 2", "X");
        doc.text("_1p1 2", "X");

        doc.promise(4, "N NoSuchElementException, a name has no array.");
        RankCalc calc = new RankCalc();
        doc.on(calc, "A", "N");
        doc.on(calc, "A:A", "N");
        doc.on(calc, "A:i0", "[0]");
        doc.on(calc, "A", "[0]");
        doc.on(calc, "B", "N");
        doc.on(calc, "B:A", "[0]");
        doc.same("forget", calc.forget(0), true);
        doc.on(calc, "A,B", "N");
        doc.on(calc, "B", "[0]");
    }

    private void firstFault() {
        doc.promise(4, "The first one met ends the evaluation;");
        RankCalc calc = new RankCalc();
        doc.on(calc, "(1%0)+H+i_1", "D");
        doc.same("done", calc.done(), 0);
        doc.on(calc, "(i49)+H+|1", "N");
        doc.same("done", calc.done(), 1);
        doc.on(calc, "(i49)+(|H)+1%0", "D");
        doc.on(calc, "-(1 2+1 2 3)+|5", "L");
        doc.same("done", calc.done(), 1);

        doc.promise(4, "element by element goes from the first element on.");
        doc.ends("(1,B)%0 _1", "D");
        doc.ends("(B,1)%_1 0", "S");
        doc.ends("(2 2r1,B,1 1)%2 2r1 _1 0 1", "S");
        doc.ends("(2 2r1 1,B,1)%2 2r1 0 _1 1", "D");
        doc.ends("(48r(46r1),B,1)%48r(46r1),_1 0", "S");
        doc.ends("(1,B)%@0 _1", "D");
        doc.ends("(B,1)%@_1 0", "S");
        doc.ends("%/2 2r1 0,B,_1", "D");
        doc.ends("%/2 2rB,_1 1 0", "S");
        doc.ends("%\\2 2r1 0,B,_1", "D");
        doc.ends("%\\2 2rB,_1 1 0", "S");
        doc.ends("(2 1r1,B)+.%1 2r0 _1", "D");
        doc.ends("(2 1rB,1)+.%1 2r_1 0", "S");
        doc.ends("(2 2r1 0,B,1)%.%1 1", "D");
        doc.ends("(2 2rB,1 1 0)%.%_1 1", "S");
        // the first element is whole, its f too, before the second one has its g
        doc.ends("(2 2r1 0,B,1)%.%_1 1", "D");
    }

    /** The elements 0 .. n - 1 as they are told. */
    private static String row(int n) {
        StringBuilder told = new StringBuilder();
        for (int k = 0; k < n; k++) {
            told.append(" ").append(k);
        }
        return told.toString();
    }
}
