/** Promise 4 and the terms: what is a statement, and in which order it is evaluated. */
public final class GrammarTest {
    private static final Check CHECK = new Check();

    public static void main(String[] args) {
        statements();
        noStatements();
        order();
        longTexts();
        oneObject();
        CHECK.end();
    }

    private static void statements() {
        CHECK.text("7", "[] 7");
        CHECK.text("  7  ", "[] 7");
        CHECK.text("_7", "[] -7");
        CHECK.text("_0", "[] 0");
        CHECK.text("007", "[] 7");
        CHECK.text("999999999 _999999999", "[2] 999999999 -999999999");
        CHECK.text("1 _2  3", "[3] 1 -2 3");
        CHECK.text("1-2 3", "[2] -1 -2");
        CHECK.text("1 2 3 - 3", "[3] -2 -1 0");
        CHECK.text("2*3+4", "[] 14");
        CHECK.text("(2*3)+4", "[] 10");
        CHECK.text("10-5-2", "[] 7");
        CHECK.text("--5", "[] 5");
        CHECK.text("3--5", "[] 8");
        CHECK.text("3-_5", "[] 8");
        CHECK.text("-3-5", "[] 2");
        CHECK.text("(1 2)+(3 4)", "[2] 4 6");
        CHECK.text("((((((7))))))", "[] 7");
        CHECK.text("((((((1))))))+((((((2))))))", "[] 3");
        CHECK.text("(((((((7)))))))", "-1");
        CHECK.text("( ( 1 ) , 2 )", "[2] 1 2");
        CHECK.text("+ / 1 2", "[] 3");
        CHECK.text("- \\ 1 2", "[2] 1 -1");
        CHECK.text("1 2 + . * 3 4", "[] 11");
        CHECK.text("1 2+.*3 4", "[] 11");
        CHECK.text("1 2+.+3 4", "[] 10");
        CHECK.text("1 2 + @ 3 4", "[2 2] 4 5 5 6");
        CHECK.text("1 2+@-3 4", "[2 2] -2 -3 -1 -2");
        CHECK.text("1 2-.--3 4", "[] -2");
        CHECK.text("1+-/2 3", "[] 0");
        CHECK.text("H : 3", "[] 3");
        CHECK.text("A:i 3", "[3] 0 1 2");
        CHECK.text("2r1", "[2] 1 1");
        CHECK.text("2rr1 2", "[2] 2 2");
        CHECK.text(",,1", "[1] 1");
        CHECK.text("1,,2", "[2] 1 2");
    }

    private static void noStatements() {
        String[] texts = {
            "", " ", "+", "+1", "%1", "<1", ">1", "=1", "&1", "^1", "p1", "1+", "(1", "1)", "()", "(", ")", "(1))",
            "((1)", ")1(", "1 (2)", "(1) 2", "(1)(2)", "A 1", "1 A", "A B", "AB", "A1", "1A", "12_3", "_", "_ 3",
            "__3", "3_", "1 _", "1234567890", "_1234567890", "12345678901", "1x", "I", "a", "@", "J:1", "I:1", "A:",
            ":1", "A:B:1", "(A:1)", "1:2", "A::1", "A B:1", "1+A:2", "1i2", "1t2", "1v2", "1+/2", "1 2-\\3 4",
            "/1", "\\1", "1/2", "+/", "+\\", "1+.2", "1+.", "1+.(2)", "1+.r2", "1.2", "1.+2", "1@2", "1+@", "1+.*",
            "1+.*@2", "1+@@2", "1+@.*2", "+.*1", "+@1", "+.*/1", "i/1", "r/1", ",/1", "1r@2", "1r.+2", "1,.+2", "1p.+2",
            "1+.p2", "r", "i", "1r", "1+*", "1++2", "1+%2", "+//1", "1 2 +.* /3", "\t1", "1\t", "1\n2", "1;", "\"",
            "1" + (char) 160 + "2", "1" + (char) 255, (char) 1 + "", "1?", "#", "$", "'", "~", "`", "[1]", "{1}", "!1"};
        for (String text : texts) {
            CHECK.text(text, "-1");
        }
        // nothing of what is no statement is evaluated: no fault of its right part shows
        CHECK.text("1+1%0)", "-1");
        CHECK.text("+B", "-1");
        CHECK.text("1 1%0", "D");
    }

    private static void order() {
        CHECK.text("B+1%0", "D");
        CHECK.text("(1%0)+B", "N");
        CHECK.text("B%0", "N");
        CHECK.text("(i_1)+i49", "S");
        CHECK.text("(i49)+i_1", "D");
        CHECK.text("(5p1 2)+1 2+1 2 3", "L");
        CHECK.text("(1 2+1 2 3)+5p1 2", "X");
        CHECK.text("-(2 2r1)+1 2", "R");
        RankCalc calc = new RankCalc();
        CHECK.same("A", Check.outcome(calc, "A:5"), "[] 5");
        CHECK.same("A by itself", Check.outcome(calc, "A:A+A*A"), "[] 30");
        CHECK.same("A after", Check.outcome(calc, "A"), "[] 30");
        // at every depth one function waits for its left argument
        CHECK.text("1+(2+(3+(4+(5+(6+(7+8)+9)+10)+11)+12)+13)+14", "[] 105");
        CHECK.text("((((((1-2)-3)-4)-5)-6)-7)-8", "[] -34");
        CHECK.text("((((((1 2,3)+1),4)*2),5)-1 2 3 4 5),-6", "[6] 3 4 5 4 0 -6");
    }

    /** What an earlier run left behind, in whatever place it ended, is of no account. */
    private static void oneObject() {
        RankCalc calc = new RankCalc();
        String inDepth = "((((((1 2,3),4),5),6),7),8),9";
        for (int k = 0; k < 20; k++) {
            CHECK.same("in depth", Check.outcome(calc, inDepth), "[9] 1 2 3 4 5 6 7 8 9");
            CHECK.same("open", Check.outcome(calc, "((((((1"), "-1");
            CHECK.same("closed", Check.outcome(calc, "1))"), "-1");
            CHECK.same("in ( )", Check.outcome(calc, "(((((1+(1%0))))))"), "D");
            CHECK.same("waiting", Check.outcome(calc, "(((((B+1)+2)+3)+4)+5)+6"), "N");
            CHECK.same("row", Check.outcome(calc, "1 ".repeat(48) + "1"), "S");
            CHECK.same("one", Check.outcome(calc, "7"), "[] 7");
        }
    }

    private static void longTexts() {
        String row = "1 ".repeat(48);
        CHECK.text(row, "[48]" + " 1".repeat(48));
        CHECK.text(row + "2", "S");
        CHECK.text("+/" + row + "1", "S");
        CHECK.text(row + "1+B", "N");
        CHECK.text(row + "1+1%0", "D");
        CHECK.text("B+" + row + "1", "S");
        CHECK.text(row + "1 2 3+", "-1");
        CHECK.text("1 ".repeat(100), "S");
        CHECK.text(" ".repeat(199) + "1", "[] 1");
        CHECK.text("-".repeat(199) + "1", "[] -1");
        CHECK.text("1+".repeat(99) + "1", "[] 100");
        CHECK.text("-".repeat(200), "-1");
        CHECK.text("(".repeat(200), "-1");
        CHECK.text("_".repeat(200), "-1");
        CHECK.text("9".repeat(200), "-1");
        CHECK.text(":".repeat(200), "-1");
        CHECK.text("1+.".repeat(66), "-1");
    }
}
