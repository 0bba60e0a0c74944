/** The sentences of the terms on the text, its tokens, and what is a statement. */
final class TextBounds {
    private static final String SINGLE = "ABCDEFGH():+-*%|<>=&^ir,tvp/\\.@";
    private static final String DIGITS = "0123456789";

    private final Sentences doc;

    TextBounds(Sentences doc) {
        this.doc = doc;
    }

    void ask() {
        text();
        tokens();
        statement();
        expression();
        term();
        formsOfFunctions();
    }

    private void text() {
        doc.promise(4, "The TEXT has at most 200 characters with codes 1 .. 255.");
        doc.text(" ".repeat(199) + "7", "[] 7");
        doc.text("7" + " ".repeat(199), "[] 7");
        doc.text("-".repeat(199) + "7", "[] -7");
        doc.text("1+".repeat(99) + "1 ", "[] 100");
        doc.text("1,".repeat(47) + "1" + " ".repeat(105), "[48]" + " 1".repeat(48));
        doc.text("(1)+".repeat(49) + "(1)", "[] 50");
        doc.text("1 2".repeat(66), "S");
        doc.noStatements("", "-".repeat(200), "1+".repeat(100), "(".repeat(200), ")".repeat(200), "_".repeat(200),
                "1".repeat(200), "1(".repeat(100), "+.".repeat(100), "A:".repeat(100), " ".repeat(200),
                " ".repeat(199) + "-", "-".repeat(199) + "+", "1+".repeat(99) + "1.", "1+".repeat(98) + "1+.*");
        doc.noStatements("" + (char) 1, "" + (char) 255, "1" + (char) 128, (char) 200 + "1");

        doc.promise(4, "Blanks (32) may stand between tokens.");
        doc.text(" A  :   ( 1  2 ) + . * - 3 4 ", "[] -11");
        doc.text("A:(1 2)+.*-3 4", "[] -11");
        doc.text("1 2 + @ 3", "[2] 4 5");
        doc.text("+ / 1 2", "[] 3");
        doc.text("+ \\ 1 2", "[2] 1 3");
        doc.text("2 r r 5 6", "[2] 2 2");
        doc.text("1       2", "[2] 1 2");
        doc.text("1 " + " ".repeat(197) + "2", "[2] 1 2");
        // not within a token, and no other code is a blank
        doc.noStatements("_ 1", "1 _ 2", "1 _", " ", "    ");
        for (int code : new int[] {1, 8, 9, 10, 11, 12, 13, 28, 31, 33, 127, 133, 160, 255}) {
            doc.noStatements("1" + (char) code + "+1", "1+" + (char) code + "1", (char) code + "1", "1" + (char) code);
        }
    }

    private void tokens() {
        doc.promise(4, "TOKENS: a NUMBER, an optional _ (it is negative) and one to nine digits,"
                + " which no digit or _ follows at once;");
        for (int digit = 0; digit <= 9; digit++) {
            doc.text("" + digit, "[] " + digit);
            doc.text("_" + digit, "[] " + -digit);
            doc.text(digit + "00000000", "[] " + digit * 100000000);
            doc.noStatements(digit + "000000000", "_" + digit + "000000000", "000000000" + digit);
        }
        doc.text("123456789", "[] 123456789");
        doc.text("_123456789", "[] -123456789");
        doc.text("999999999 _999999999", "[2] 999999999 -999999999");
        doc.text("000000000", "[] 0");
        doc.text("_000000001", "[] -1");
        doc.text("_0", "[] 0");
        doc.text("_1 _2", "[2] -1 -2");
        doc.text("1 _2-_3", "[2] 4 1");
        doc.text("1-_2", "[] 3");
        doc.text("-_2", "[] 2");
        doc.noStatements("_", "__1", "1_", "_1_", "1_2", "_1_2", "1 2_3", "1__2", "123456789_1", "123456789_", "_A",
                "_(1)", "_-1", "-_", "0123456789", "1 0123456789", "1.5", "1234567890123");

        doc.promise(4, "a name; and the single characters ( ) : + - * % | < > = & ^ i r , t v p / \\ . @ .");
        for (int code = 1; code < 256; code++) {
            char sign = (char) code;
            if (SINGLE.indexOf(sign) < 0 && DIGITS.indexOf(sign) < 0 && sign != ' ' && sign != '_') {
                doc.noStatements("" + sign, "1" + sign, sign + "1", "1" + sign + "1", "1 " + sign + " 1", "A" + sign + "1",
                        "1+" + sign, "1+" + sign + "1", "+" + sign + "1", "1+" + sign + "+1", "1" + sign + "+1",
                        "(1" + sign + ")", sign + "(1)", "A:" + sign + "1", sign + ":1", "-" + sign + "1");
            }
        }
        String[] texts = {"(7)", "A:7", "7+2", "7-2", "7*2", "6%2", "7|2", "7<2", "7>2", "7=2", "7&2", "7^2", "i2", "2r7",
            "7,2", "t2", "v2", "1p7 2", "+/7 2", "+\\7 2", "7 2+.*1 1", "7+@2"};
        String[] told = {"[] 7", "[] 7", "[] 9", "[] 5", "[] 14", "[] 3", "[] 2", "[] 0", "[] 1", "[] 0", "[] 2", "[] 7",
            "[2] 0 1", "[2] 7 7", "[2] 7 2", "[] 2", "[] 2", "[] 2", "[] 9", "[2] 7 9", "[] 9", "[] 9"};
        for (int k = 0; k < texts.length; k++) {
            doc.text(texts[k], told[k]);
        }
        doc.noStatements("I", "R", "T", "V", "P", "1R1", "I3", "x", "\u00b5", "1\u00b71", "1\u00d71", "1\u00f71");
    }

    private void statement() {
        doc.promise(4, "A STATEMENT is an EXPRESSION, or a name, a : and an expression.");
        doc.text("7", "[] 7");
        doc.text("A:7", "[] 7");
        doc.text("H:-7", "[] -7");
        doc.text("B:(7)", "[] 7");
        doc.text("C:C", "N");
        doc.noStatements("", ":", "A:", ":7", "A:B:7", "A::7", "::7", "7:7", "7:A", "(A):7", "(A:7)", "A:(B:7)", "7+A:7",
                "A B:7", "AB:7", "A+B:7", "-A:7", "A:7:", "A:7 B:7", "A:7A:7", "A:7 8:", "I:7", "_:7", "A 7", "A(7)");
    }

    private void expression() {
        doc.promise(4, "An expression is a TERM; or a term, a function with two arguments and an expression;");
        doc.text("(7)", "[] 7");
        doc.text("7+8", "[] 15");
        doc.text("7+8+9", "[] 24");
        doc.text("(7)+(8)", "[] 15");
        doc.noStatements("7+", "(7)+", "7+)", "7 8+", "+7", "+", "(+7)", "(7+)", "7+(8+)", "7++8", "7+%8", "7%%8",
                "(7)(8)", "(7)8", "7(8)", "A A", "AA", "A1", "1A", "A(1)", "(1)A", "7i8", "7t8", "7v8", "7+8i", "i7 8 t9");
        for (char sign : "+-*%|<>=&^r,p".toCharArray()) {
            doc.noStatements("1" + sign, "1 " + sign + " ", "(1" + sign + ")", sign + "", "1+2" + sign);
        }

        doc.promise(4, "or a function with one argument and an expression.");
        for (char sign : "-|*ir,tv".toCharArray()) {
            doc.text(sign + "A", "N");
            doc.text("1," + sign + "A", "N");
            doc.text("(" + sign + "A)", "N");
            doc.noStatements("" + sign, "(" + sign + ")", sign + ")", "A" + sign, sign + ":1", "" + sign + sign);
        }
        for (char sign : "+%<>=&^p".toCharArray()) {
            doc.noStatements(sign + "A", "1," + sign + "A", "(" + sign + "A)", "-" + sign + "A", "A:" + sign + "A");
        }
        doc.text("-|*-7", "[] -1");
        doc.text("3--7", "[] 10");
        doc.text("3---7", "[] -4");
        doc.text("1,,2", "[2] 1 2");
        doc.text("2rr5 6", "[2] 2 2");
    }

    private void term() {
        doc.promise(4, "A term is a name;");
        doc.ends("A", "[] 2147483647");
        doc.ends("B+A", "[] -1");
        doc.text("H", "N");

        doc.promise(4, "one or more numbers (one is a scalar, more are a vector);");
        doc.text("7", "[] 7");
        doc.text("(7)", "[] 7");
        doc.text("7 8", "[2] 7 8");
        doc.text("r7", "[0]");
        doc.text("r7 8", "[1] 2");
        doc.text("7+8 9", "[2] 15 16");
        doc.text("8 9+7", "[2] 15 16");

        doc.promise(4, "or an expression in ( ), at most 6 deep.");
        doc.text("((((((7))))))", "[] 7");
        doc.text("( ( ( ( ( ( 7 ) ) ) ) ) )", "[] 7");
        doc.text("((((((7))))))+((((((8))))))", "[] 15");
        doc.text("-((((((7+(8)))))))", "-1");
        doc.text("-(((((7+(8))))))", "[] -15");
        doc.text("(7)+(8)+(9)+(1)+(2)+(3)+(4)+(5)", "[] 39");
        doc.text("1+(1+(1+(1+(1+(1+(1))))))", "[] 7");
        doc.text("((((((1)+1)+1)+1)+1)+1)+1", "[] 7");
        doc.text("A:((((((7))))))", "[] 7");
        doc.noStatements("(((((((7)))))))", "1+(1+(1+(1+(1+(1+(1+(1)))))))", "(((((((1)+1)+1)+1)+1)+1)+1)+1",
                "A:(((((((7)))))))", "((((((7))))))+(((((((8)))))))", "(((((((8)))))))+7", "()", "(())", "1+()", "()+1",
                "-()", "(", ")", "(7", "7)", "((7)", "(7))", ")7(", "((((((7)))))", "((((((7)))))))", "(7)+8)", "(7+8",
                "(7+(8)", "7+8)+(9", "((((((((((7))))))))))");

        doc.promise(4, "The longest row of numbers is one term.");
        doc.text("1 2 3", "[3] 1 2 3");
        doc.text("1 2 3-1", "[3] 0 1 2");
        doc.text("1 2 3-1 1 1", "[3] 0 1 2");
        doc.text("-1 2 3", "[3] -1 -2 -3");
        doc.text("2 3r1 2", "[2 3] 1 2 1 2 1 2");
        doc.text("1 _2 3", "[3] 1 -2 3");
        doc.text("1 2+.*3 4", "[] 11");
        doc.text("1 1 1 1r5", "R");
        doc.text("1 2 3+4 5", "L");
        doc.noStatements("1 (2)", "(1) 2", "1 A", "A 1", "1 2 A", "(1 2)3");
    }

    private void formsOfFunctions() {
        doc.promise(4, "What / \\ . @ are put to is a number function;");
        String others = "ir,tvpA1():/\\.@";
        for (char f : others.toCharArray()) {
            doc.noStatements(f + "/1 2", f + "\\1 2", "(1 2)" + f + ".*1 2", "(1 2)" + f + "@1 2");
        }
        for (char f : "+-*%|<>=&^".toCharArray()) {
            doc.text(f + "/A", "N");
            doc.text(f + "\\A", "N");
            doc.text("A" + f + ".-A", "N");
            doc.text("A" + f + "@A", "N");
            doc.text("1," + f + "/A", "N");
            doc.text("1," + f + "\\A", "N");
            doc.noStatements("1" + f + "/2", "1" + f + "\\2", f + "@2", f + ".+2", f + "/", f + "\\", "1" + f + "@", "1" + f + ".",
                    f + "//1", f + "\\\\1", f + "/\\1", "1" + f + "@@1", "1" + f + "@.+1", "1" + f + ".+@1", "1" + f + ".+/1",
                    "1" + f + "/@1", "1" + f + "/.+1", "1" + f + ".+.+1", f + "/)", "(" + f + "/)");
        }
        doc.noStatements("/1", "\\1", ".1", "@1", "1/1", "1\\1", "1.1", "1@1", "/", "\\", ".", "@", "(+)/1", "(+/)1");

        doc.promise(4, "after . comes another one.");
        for (char f : "+-*%|<>=&^".toCharArray()) {
            for (char g : "+-*%|<>=&^".toCharArray()) {
                doc.text("A" + f + "." + g + "A", "N");
            }
            doc.noStatements("1" + f + ".", "1" + f + ".1", "1" + f + ".A", "1" + f + ".(1)", "1" + f + "..1", "1" + f + "." + f);
            for (char g : "ir,tvp".toCharArray()) {
                doc.noStatements("1" + f + "." + g + "1", "(1 2)" + f + "." + g + " 1 2");
            }
        }
        doc.text("1 2-.--3 4", "[] -2");
    }
}
