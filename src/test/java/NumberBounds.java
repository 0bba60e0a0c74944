/** The sentences of the terms on number functions, reductions, scans, inner and outer products. */
final class NumberBounds {
    private static final String NOT_SUM_NOR_PRODUCT = "-%|<>=&^";

    private final Sentences doc;

    NumberBounds(Sentences doc) {
        this.doc = doc;
    }

    void ask() {
        sums();
        quotients();
        comparisons();
        twoArguments();
        oneArgument();
        reductions();
        scans();
        innerFaults();
        inner();
        outer();
    }

    private void sums() {
        doc.promise(4, "NUMBER FUNCTIONS f of two ints: a + b");
        doc.ends("A+0", "[] 2147483647");
        doc.ends("0+B", "[] -2147483648");
        doc.ends("A+_1", "[] 2147483646");
        doc.ends("A+1", "S");
        doc.ends("1+A", "S");
        doc.ends("B+_1", "S");
        doc.ends("_1+B", "S");
        doc.ends("A+A", "S");
        doc.ends("B+B", "S");
        doc.ends("A+B", "[] -1");

        doc.promise(4, "a - b");
        doc.ends("B-0", "[] -2147483648");
        doc.ends("B-1", "S");
        doc.ends("A-_1", "S");
        doc.ends("0-B", "S");
        doc.ends("_1-B", "[] 2147483647");
        doc.ends("0-A", "[] -2147483647");
        doc.ends("_1-A", "[] -2147483648");
        doc.ends("_2-A", "S");
        doc.ends("A-B", "S");
        doc.ends("B-A", "S");
        doc.ends("A-A", "[] 0");
        doc.ends("B-B", "[] 0");

        doc.promise(4, "a * b");
        doc.text("46340*46341", "[] 2147441940");
        doc.text("46341*46341", "S");
        doc.text("_46341*46341", "S");
        doc.text("65536*32767", "[] 2147418112");
        doc.text("65536*32768", "S");
        doc.text("_65536*32768", "[] -2147483648");
        doc.text("_65536*_32768", "S");
        doc.ends("1*A", "[] 2147483647");
        doc.ends("_1*A", "[] -2147483647");
        doc.ends("1*B", "[] -2147483648");
        doc.ends("_1*B", "S");
        doc.ends("B*_1", "S");
        doc.ends("2*A", "S");
        doc.ends("0*B", "[] 0");
        doc.ends("A*A", "S");
        doc.ends("B*B", "S");
        doc.ends("A*B", "S");
    }

    private void quotients() {
        doc.promise(4, "a % b: the exact quotient (D if b is 0 or does not divide a)");
        doc.text("6%3", "[] 2");
        doc.text("_6%3", "[] -2");
        doc.text("6%_3", "[] -2");
        doc.text("_6%_3", "[] 2");
        doc.text("0%3", "[] 0");
        doc.text("0%_3", "[] 0");
        doc.text("3%3", "[] 1");
        for (String text : new String[] {"1%0", "0%0", "_1%0", "7%2", "_7%2", "7%_2", "_7%_2", "1%2", "_1%2", "2%3"}) {
            doc.text(text, "D");
        }
        doc.ends("A%0", "D");
        doc.ends("B%0", "D");
        doc.ends("A%A", "[] 1");
        doc.ends("B%B", "[] 1");
        doc.ends("A%_1", "[] -2147483647");
        doc.ends("B%1", "[] -2147483648");
        doc.ends("B%_1", "S");
        doc.ends("B%2", "[] -1073741824");
        doc.ends("A%2", "D");
        doc.ends("A%B", "D");
        doc.ends("B%A", "D");
        doc.ends("0%B", "[] 0");

        doc.promise(4, "a | b: b - a * floor(b / a), b if a is 0");
        doc.text("3|7 6 5 1 0 _1 _2 _3 _4 _7", "[10] 1 0 2 1 0 2 1 0 2 2");
        doc.text("_3|7 6 5 1 0 _1 _2 _3 _4 _7", "[10] -2 0 -1 -2 0 -1 -2 0 -1 -1");
        doc.text("0|7 0 _7", "[3] 7 0 -7");
        doc.text("1|7 0 _7", "[3] 0 0 0");
        doc.text("_1|7 0 _7", "[3] 0 0 0");
        doc.ends("0|A,B", "[2] 2147483647 -2147483648");
        doc.ends("1|A,B", "[2] 0 0");
        doc.ends("_1|A,B", "[2] 0 0");
        doc.ends("2|A,B", "[2] 1 0");
        doc.ends("A|B,_1 0 1,A", "[5] 2147483646 2147483646 0 1 0");
        doc.ends("B|B,_1 0 1,A", "[5] 0 -1 0 -2147483647 -1");
    }

    private void comparisons() {
        doc.promise(4, "a < b, a > b, a = b: 1 or 0");
        doc.text("1 2 3<2", "[3] 1 0 0");
        doc.text("1 2 3>2", "[3] 0 0 1");
        doc.text("1 2 3=2", "[3] 0 1 0");
        doc.text("_1<0", "[] 1");
        doc.text("0>_1", "[] 1");
        doc.text("_0=0", "[] 1");
        // the differences are no ints
        doc.ends("(A,B)<B,A", "[2] 0 1");
        doc.ends("(A,B)>B,A", "[2] 1 0");
        doc.ends("(A,B)=B,A", "[2] 0 0");
        doc.ends("(A,B)=A,B", "[2] 1 1");
        doc.ends("(A,B)<A,B", "[2] 0 0");
        doc.ends("(A,B)>A,B", "[2] 0 0");

        doc.promise(4, "a & b the lesser");
        doc.text("1 2 3 _2&2", "[4] 1 2 2 -2");
        doc.ends("(A,B,A,B)&A,B,B,A", "[4] 2147483647 -2147483648 -2147483648 -2147483648");

        doc.promise(4, "a ^ b the greater.");
        doc.text("1 2 3 _2^2", "[4] 2 2 3 2");
        doc.ends("(A,B,A,B)^A,B,B,A", "[4] 2147483647 -2147483648 2147483647 2147483647");
    }

    private void twoArguments() {
        doc.promise(4, "As functions with two arguments: arrays of the same rank and lengths, element by element;");
        doc.text("7-2", "[] 5");
        doc.text("(1r7)-1r2", "[1] 5");
        doc.text("7 8 9-1 2 4", "[3] 6 6 5");
        doc.text("(2 2ri4)-2 2r4 3 2 1", "[2 2] -4 -2 0 2");
        doc.text("(2 1 2ri4)-2 1 2r4 3 2 1", "[2 1 2] -4 -2 0 2");
        doc.text("(48r3)-48r1", "[48]" + " 2".repeat(48));
        doc.text("(2 3 8r3)-2 3 8r1", "[2 3 8]" + " 2".repeat(48));
        doc.text("(i0)%i0", "[0]");
        doc.text("(0 3r1)%0 3r1", "[0 3]");
        doc.text("(48 48 0r1)%48 48 0r1", "[48 48 0]");

        doc.promise(4, "a scalar goes with each element of the other one, whatever it is;");
        doc.text("7-1 2 3", "[3] 6 5 4");
        doc.text("1 2 3-7", "[3] -6 -5 -4");
        doc.text("7-1r1", "[1] 6");
        doc.text("(1r1)-7", "[1] -6");
        doc.text("7-2 2ri4", "[2 2] 7 6 5 4");
        doc.text("(2 2ri4)-7", "[2 2] -7 -6 -5 -4");
        doc.text("7-1 2 2ri4", "[1 2 2] 7 6 5 4");
        doc.text("(1 2 2ri4)-7", "[1 2 2] -7 -6 -5 -4");
        doc.text("7-48r1", "[48]" + " 6".repeat(48));
        doc.text("7%i0", "[0]");
        doc.text("(i0)%0", "[0]");
        doc.text("(48 48 0r1)%0", "[48 48 0]");
        doc.text("7%0 2r0", "[0 2]");

        doc.promise(4, "else R if the ranks differ, L if the lengths do.");
        doc.text("1 2+2 2r1", "R");
        doc.text("(2 2r1)+1 2", "R");
        doc.text("(1r1)+1 1r1", "R");
        doc.text("(1 1r1)+1 1 1r1", "R");
        doc.text("(1 1 1r1)+1r1", "R");
        doc.text("(i0)+0 0r1", "R");
        doc.text("1 2 3+2 2r1", "R");
        doc.text("1 2%2 2r0", "R");
        doc.text("1 2+1 2 3", "L");
        doc.text("1 2 3+1 2", "L");
        // an array of one element is no scalar
        doc.text("(1r1)+1 2", "L");
        doc.text("1 2+1r1", "L");
        doc.text("(i0)+1r1", "L");
        doc.text("(1r1)+i0", "L");
        doc.text("(2 3r1)+3 2r1", "L");
        doc.text("(2 3r1)+2 2r1", "L");
        doc.text("(2 3r1)+1 3r1", "L");
        doc.text("(1 2 3r1)+1 3 2r1", "L");
        doc.text("(2 2 2r1)+1 2 2r1", "L");
        doc.text("(2 2 2r1)+2 1 2r1", "L");
        doc.text("(2 2 2r1)+2 2 1r1", "L");
        doc.text("(0 3r1)+3 0r1", "L");
        doc.text("(0 3r1)+0 2r1", "L");
        doc.text("1 2%0 0 0", "L");
    }

    private void oneArgument() {
        doc.promise(4, "With one argument: - negates, | makes absolute, * is -1, 0 or 1 by the sign, of each element.");
        doc.text("-5 0 _5", "[3] -5 0 5");
        doc.text("|5 0 _5", "[3] 5 0 5");
        doc.text("*5 0 _5 1 _1", "[5] 1 0 -1 1 -1");
        doc.ends("-A,-A", "[2] -2147483647 2147483647");
        doc.ends("|A,-A", "[2] 2147483647 2147483647");
        doc.ends("*A,B", "[2] 1 -1");
        doc.ends("-B", "S");
        doc.ends("|B", "S");
        doc.ends("-1,B", "S");
        doc.text("-7", "[] -7");
        doc.text("|_7", "[] 7");
        doc.text("*_7", "[] -1");
        for (char f : "-|*".toCharArray()) {
            doc.text(f + "i0", "[0]");
            doc.text(f + "2 0r1", "[2 0]");
            doc.text(f + "48 48 0r1", "[48 48 0]");
            doc.text(f + "2 3 8r0", "[2 3 8]" + " 0".repeat(48));
        }
        doc.text("-2 1 2ri4", "[2 1 2] 0 -1 -2 -3");
    }

    private void reductions() {
        doc.promise(4, "f/ (one argument): each row a1 .. an becomes the one element a1 f (a2 f (.. f an)),"
                + " worked out from the right; the last axis is gone.");
        doc.text("-/1 2 3 4", "[] -2");
        doc.text("-/i48", "[] -24");
        doc.text("%/12 6 3", "[] 6");
        doc.text("|/2 3 7", "[] 1");
        doc.text("</2 1 0", "[] 0");
        doc.text("</_1 1 0", "[] 1");
        doc.text("-/2 3ri6", "[2] 1 4");
        doc.text("-/3 2ri6", "[3] -1 -1 -1");
        doc.text("-/2 2 2ri8", "[2 2] -1 -1 -1 -1");
        doc.text("+/1 48r1", "[1] 48");
        doc.text("+/0 3r1", "[0]");
        doc.text("-/0 48 48r1", "[0 48]");
        doc.text("-/48 0 48r1", "[48 0]");
        doc.ends("+/1,_1,A", "[] 2147483647");
        doc.ends("+/_1,1,A", "S");
        doc.ends("%/1,0,B,_1", "S");
        doc.text("%/1 0 1", "D");
        doc.text("%/0 1 0", "D");

        doc.promise(4, "n = 1: a1;");
        for (char f : "+-*%|<>=&^".toCharArray()) {
            doc.text(f + "/1r7", "[] 7");
            doc.text(f + "/3 1r7 0 _7", "[3] 7 0 -7");
            doc.text(f + "/1 1 1r7", "[1 1] 7");
            doc.ends(f + "/,B", "[] -2147483648");
        }
        doc.text("-/48 1ri48", Check.outcome(new RankCalc(), "i48"));

        doc.promise(4, "n = 0: 0 for +, 1 for *, else D.");
        doc.text("+/i0", "[] 0");
        doc.text("*/i0", "[] 1");
        doc.text("+/3 0r1", "[3] 0 0 0");
        doc.text("*/3 0r1", "[3] 1 1 1");
        doc.text("+/2 2 0r1", "[2 2] 0 0 0 0");
        doc.text("*/6 8 0r1", "[6 8]" + " 1".repeat(48));
        doc.text("*/0 0r1", "[0]");
        for (char f : NOT_SUM_NOR_PRODUCT.toCharArray()) {
            doc.text(f + "/i0", "D");
            doc.text(f + "/1 0r1", "D");
            doc.text(f + "/2 3 0r1", "D");
            doc.text("(i0)" + f + ".+i0", "D");
            // there is no row that could become an element
            doc.text(f + "/0 0r1", "[0]");
        }

        doc.promise(4, "A scalar stays.");
        for (char f : "+-*%|<>=&^".toCharArray()) {
            doc.text(f + "/_7", "[] -7");
            doc.text(f + "/0", "[] 0");
            doc.ends(f + "/B", "[] -2147483648");
        }
    }

    private void scans() {
        doc.promise(4, "f\\ : each row's element k becomes what f/ makes of the row's elements up to k;");
        doc.text("+\\1 2 3", "[3] 1 3 6");
        doc.text("-\\1 2 3 4", "[4] 1 -1 2 -2");
        doc.text("-\\2 3ri6", "[2 3] 0 -1 1 3 -1 4");
        doc.text("-\\2 1 2ri4", "[2 1 2] 0 -1 2 -1");
        doc.text("%\\6 3 1", "[3] 6 2 2");
        doc.text("<\\0 1 2", "[3] 0 1 1");
        doc.text("+\\48r1", Check.outcome(new RankCalc(), "1+i48"));
        doc.text("+\\2 24r1", "[2 24]" + Check.outcome(new RankCalc(), "1+i24").substring(4).repeat(2));
        doc.text("%\\6 3 2", "D");
        doc.text("%\\1 0 5", "D");
        doc.text("%\\0 5", "[2] 0 0");
        doc.ends("+\\A,_1 2", "S");
        doc.ends("+\\A,_2 1", "[3] 2147483647 2147483645 2147483646");
        for (char f : "+-*%|<>=&^".toCharArray()) {
            doc.text(f + "\\1r7", "[1] 7");
            doc.text(f + "\\3 1r7 0 _7", "[3 1] 7 0 -7");
            doc.text(f + "\\i0", "[0]");
            doc.text(f + "\\2 0r1", "[2 0]");
            doc.text(f + "\\0 2r1", "[0 2]");
            doc.text(f + "\\48 48 0r1", "[48 48 0]");
        }

        doc.promise(4, "a scalar stays.");
        for (char f : "+-*%|<>=&^".toCharArray()) {
            doc.text(f + "\\_7", "[] -7");
            doc.ends(f + "\\B", "[] -2147483648");
        }
    }

    private void innerFaults() {
        doc.promise(4, "f.g (two arguments): R if one is a scalar, or the ranks together are above 5;");
        doc.text("5+.*1r5", "R");
        doc.text("(1r5)+.*5", "R");
        doc.text("5+.*5", "R");
        doc.text("5+.*i0", "R");
        doc.text("(i0)+.*5", "R");
        doc.text("5+.*1 1 1r5", "R");
        doc.text("(1 1 1r5)+.*5", "R");
        doc.text("(1r5)+.*1r5", "[] 25");
        doc.text("(1 1r5)+.*1 1 1r5", "[1 1 1] 25");
        doc.text("(1 1 1r5)+.*1 1r5", "[1 1 1] 25");
        doc.text("(1 1 1r5)+.*1r5", "[1 1] 25");
        doc.text("(1 1 1r5)+.*1 1 1r5", "R");
        doc.text("(1 1 2r5)+.*1 1 1r5", "R");
        doc.text("(4 4 2r5)+.*2 4 4r5", "R");
        doc.text("(0 0 0r5)+.*0 0 0r5", "R");

        doc.promise(4, "L if the last length of the left one is not the first of the right one.");
        doc.text("1 2+.*1 2 3", "L");
        doc.text("1 2 3+.*1 2", "L");
        doc.text("(1r5)+.*1 2", "L");
        doc.text("1 2+.*1r5", "L");
        doc.text("(i0)+.*1r5", "L");
        doc.text("(1r5)+.*i0", "L");
        doc.text("(2 3r1)+.*2 3r1", "L");
        doc.text("(2 3r1)+.*3 4r1", "[2 4]" + " 3".repeat(8));
        doc.text("1 2+.*3 2r1", "L");
        doc.text("1 2+.*2 3r1", "[3] 3 3 3");
        doc.text("(2 3r1)+.*1 2", "L");
        doc.text("(3 2r1)+.*1 2", "[3] 3 3 3");
        doc.text("(2 2 3r1)+.*2 2r1", "L");
        doc.text("(3 3 2r1)+.*2 2r1", "[3 3 2]" + " 2".repeat(18));
        doc.text("(7 1r1)+.*2 7r1", "L");
        doc.text("(7 1r1)+.%2 7r0", "L");
        doc.text("1 2+.%0 0 0", "L");
    }

    private void inner() {
        doc.promise(4, "The lengths are the left ones without the last, then the right ones without the first;");
        doc.text("r1 2+.*3 4", "[0]");
        doc.text("r(2 3r1)+.*3 4r1", "[2] 2 4");
        doc.text("r(2 3 4r1)+.*4r1", "[2] 2 3");
        doc.text("r(4r1)+.*4 3 2r1", "[2] 3 2");
        doc.text("r(2 3 4r1)+.*4 5r1", "[3] 2 3 5");
        doc.text("r(2 4r1)+.*4 3 4r1", "[3] 2 3 4");
        doc.text("(0 2r1)-.*2 3r1", "[0 3]");
        doc.text("(3 2r1)-.*2 0r1", "[3 0]");
        doc.text("(0 0r1)-.*0 48 48r1", "[0 48 48]");
        doc.text("(6 1r1)+.*1 8r1", "[6 8]" + " 1".repeat(48));
        doc.text("(7 1r1)+.*1 7r1", "S");
        doc.text("(7 0r1)+.*0 7r1", "S");
        doc.text("(7 7 0r1)+.*i0", "S");
        doc.text("(i0)+.*0 7 7r1", "S");

        doc.promise(4, "each element is f/ of the row of (left element) g (right element) along those axes,"
                + " all g first, from the first on.");
        doc.text("1 2 3+.*4 5 6", "[] 32");
        doc.text("1 2 3-.*4 5 6", "[] 12");
        doc.text("1 2 3+.-4 5 7", "[] -10");
        doc.text("(48r1)+.*i48", "[] 1128");
        doc.text("(2 3ri6)+.*3 2ri6", "[2 2] 10 13 28 40");
        doc.text("(2 2 2ri8)-.*2 2ri4", "[2 2 2] -2 -3 -6 -7 -10 -11 -14 -15");
        doc.text("(2 2ri4)-.*2 2 2ri8", "[2 2 2] -4 -5 -6 -7 -12 -13 -14 -15");
        doc.text("(1r5)-.-1r3", "[] 2");
        doc.text("(i0)+.*i0", "[] 0");
        doc.text("(i0)*.+i0", "[] 1");
        doc.text("(2 0r1)*.%0 2r1", "[2 2] 1 1 1 1");
        // a fault of g counts before one of f, wherever it stands in the row
        doc.ends("(B,1 0)%.%_1 1 1", "S");
        doc.ends("(1 1 0,B)%.%1 1 1 _1", "S");
        doc.ends("(1 0,B)%.+0 0 _1", "S");
        doc.ends("(1 0 2)%.+0 0 0", "D");
        doc.ends("(1,B)+.%0 _1", "D");
        doc.ends("(B,1)+.%_1 0", "S");
        // then f from the right
        doc.ends("(1 0,B,_1)%.+0 0 0 0", "S");
        doc.ends("(_1,1,A)+.*1 1 1", "S");
        doc.ends("(1,_1,A)+.*1 1 1", "[] 2147483647");
    }

    private void outer() {
        doc.promise(4, "f@ (two arguments): R if the ranks together are above 3;");
        doc.text("1 2+@2 2ri4", "[2 2 2] 1 2 3 4 2 3 4 5");
        doc.text("(2 2ri4)+@1 2", "[2 2 2] 1 2 2 3 3 4 4 5");
        doc.text("5+@2 1 2ri4", "[2 1 2] 5 6 7 8");
        doc.text("(2 1 2ri4)+@5", "[2 1 2] 5 6 7 8");
        doc.text("(1 1r1)+@1 1r1", "R");
        doc.text("(1r1)+@1 1 1r1", "R");
        doc.text("(1 1 1r1)+@1r1", "R");
        doc.text("(1 1 1r1)+@1 1 1r1", "R");
        doc.text("(0 0r1)+@0 0r1", "R");
        doc.text("(4 4r1)+@4 4r1", "R");
        doc.text("(1 1r1)%@1 1r0", "R");

        doc.promise(4, "the lengths are the left ones and then the right ones;");
        doc.text("5+@6", "[] 11");
        doc.text("5+@1r6", "[1] 11");
        doc.text("(1r5)+@6", "[1] 11");
        doc.text("(1r5)+@1r6", "[1 1] 11");
        doc.text("r(2r1)+@3 4r1", "[3] 2 3 4");
        doc.text("r(2 3r1)+@4r1", "[3] 2 3 4");
        doc.text("(i0)%@i48", "[0 48]");
        doc.text("(i48)%@i0", "[48 0]");
        doc.text("(48 0r1)%@i48", "[48 0 48]");
        doc.text("(i48)%@48 0r1", "[48 48 0]");
        doc.text("0%@i0", "[0]");
        doc.text("(48 48 0r1)%@0", "[48 48 0]");
        doc.text("(24r1)+@2r1", "[24 2]" + " 2".repeat(48));
        doc.text("(25r1)+@2r1", "S");
        doc.text("(7r1)%@7r0", "S");

        doc.promise(4, "each element is (left element) f (right element).");
        doc.text("1 2 3-@1 2", "[3 2] 0 -1 1 0 2 1");
        doc.text("5-@1 2", "[2] 4 3");
        doc.text("1 2-@5", "[2] -4 -3");
        doc.text("6 12%@1 2 3", "[2 3] 6 3 2 12 6 4");
        doc.text("1 2%@1 0", "D");
        doc.ends("(A,B)+@0 1", "S");
        doc.ends("(A,B)+@0 _1", "S");
        doc.ends("(A,B)&@A,B", "[2 2] 2147483647 -2147483648 -2147483648 -2147483648");
    }
}
