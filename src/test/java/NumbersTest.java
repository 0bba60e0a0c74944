/** The number functions, and reductions, scans, inner and outer products made of them. */
public final class NumbersTest {
    private static final Check CHECK = new Check();
    private static final String LEAST = "(_147483648-2*999999999+1)";
    private static final String MOST = "(147483647+2*999999999+1)";

    public static void main(String[] args) {
        scalars();
        noInts();
        ofOne();
        each();
        reduce();
        scan();
        inner();
        outer();
        CHECK.end();
    }

    private static void scalars() {
        CHECK.text("3+4", "[] 7");
        CHECK.text("3-4", "[] -1");
        CHECK.text("3*_4", "[] -12");
        CHECK.text("12%_4", "[] -3");
        CHECK.text("0%5", "[] 0");
        CHECK.text("7%2", "D");
        CHECK.text("_7%2", "D");
        CHECK.text("7%0", "D");
        CHECK.text("0%0", "D");
        CHECK.text("3|7", "[] 1");
        CHECK.text("3|_7", "[] 2");
        CHECK.text("_3|7", "[] -2");
        CHECK.text("_3|_7", "[] -1");
        CHECK.text("3|_6", "[] 0");
        CHECK.text("_3|6", "[] 0");
        CHECK.text("0|7", "[] 7");
        CHECK.text("0|_7", "[] -7");
        CHECK.text("1 2 3<2", "[3] 1 0 0");
        CHECK.text("1 2 3>2", "[3] 0 0 1");
        CHECK.text("1 2 3=2", "[3] 0 1 0");
        CHECK.text("1 2 _3&2", "[3] 1 2 -3");
        CHECK.text("1 2 _3^_1", "[3] 1 2 -1");
    }

    private static void noInts() {
        CHECK.text(MOST, "[] 2147483647");
        CHECK.text(LEAST, "[] -2147483648");
        CHECK.text("1+" + MOST, "S");
        CHECK.text(LEAST + "-1", "S");
        CHECK.text("_1+" + LEAST, "S");
        CHECK.text("0-" + LEAST, "S");
        CHECK.text("_1-" + LEAST, "[] 2147483647");
        CHECK.text("_1*" + LEAST, "S");
        CHECK.text("2*" + MOST, "S");
        CHECK.text(LEAST + "*" + LEAST, "S");
        CHECK.text("65536*32768", "S");
        CHECK.text("65536*_32768", "[] -2147483648");
        CHECK.text("65536*65536", "S");
        CHECK.text(LEAST + "%_1", "S");
        CHECK.text(LEAST + "%1", "[] -2147483648");
        CHECK.text(LEAST + "%" + LEAST, "[] 1");
        CHECK.text("_1|" + LEAST, "[] 0");
        CHECK.text(LEAST + "|" + MOST, "[] -1");
        CHECK.text(LEAST + "|1", "[] -2147483647");
        CHECK.text(MOST + "|" + LEAST, "[] 2147483646");
        CHECK.text(LEAST + "<" + MOST, "[] 1");
        CHECK.text(LEAST + "&" + MOST, "[] -2147483648");
        CHECK.text(LEAST + "^" + MOST, "[] 2147483647");
    }

    private static void ofOne() {
        CHECK.text("-1 0 _1", "[3] -1 0 1");
        CHECK.text("|1 0 _1", "[3] 1 0 1");
        CHECK.text("*5 0 _5", "[3] 1 0 -1");
        CHECK.text("*1 _1", "[2] 1 -1");
        CHECK.text("-48r1", "[48]" + " -1".repeat(48));
        CHECK.text("-" + MOST, "[] -2147483647");
        CHECK.text("-" + LEAST, "S");
        CHECK.text("|" + LEAST, "S");
        CHECK.text("*" + LEAST, "[] -1");
        CHECK.text("-2 2r1 2 3 4", "[2 2] -1 -2 -3 -4");
        CHECK.text("-2 0r1", "[2 0]");
        CHECK.text("|2 1 2r_1 2", "[2 1 2] 1 2 1 2");
    }

    private static void each() {
        CHECK.text("1 2 3+4 5 6", "[3] 5 7 9");
        CHECK.text("10-1 2 3", "[3] 9 8 7");
        CHECK.text("(48r1)+48r2", "[48]" + " 3".repeat(48));
        CHECK.text("(2 3 8r1)+2 3 8r2", "[2 3 8]" + " 3".repeat(48));
        CHECK.text("1 2 3-10", "[3] -9 -8 -7");
        CHECK.text("(2 2r1 2 3 4)*2 2r5 6 7 8", "[2 2] 5 12 21 32");
        CHECK.text("10+2 1 2r1 2 3 4", "[2 1 2] 11 12 13 14");
        CHECK.text("1 2+1 2 3", "L");
        CHECK.text("(1r5)+1 2", "L");
        CHECK.text("(1r5)+1", "[1] 6");
        CHECK.text("(2 3r1)+3 2r1", "L");
        CHECK.text("(2 3r1)+2 3 1r1", "R");
        CHECK.text("(2 2r1)+1 2", "R");
        CHECK.text("(1r1)+1 1r1", "R");
        CHECK.text("(i0)+i0", "[0]");
        CHECK.text("(i0)+5", "[0]");
        CHECK.text("5%i0", "[0]");
        CHECK.text("(0 3r1)%3", "[0 3]");
        CHECK.text("(0 3r1)+3 0r1", "L");
        CHECK.text("(0 3r1)+i0", "R");
        // the first element with a fault counts
        CHECK.text("1 999999999 1%1 1 0", "D");
        CHECK.text("(" + MOST + ",0)+1 1", "S");
        CHECK.text("(" + LEAST + ",1)%_1 0", "S");
        CHECK.text("(1," + LEAST + ")%0 _1", "D");
    }

    private static void reduce() {
        CHECK.text("+/1 2 3", "[] 6");
        CHECK.text("-/10 3 2", "[] 9");
        CHECK.text("%/12 6 3", "[] 6");
        CHECK.text("|/2 3 7", "[] 1");
        CHECK.text("</1 2 3", "[] 0");
        CHECK.text("</0 2 3", "[] 1");
        CHECK.text(">/3 2 1", "[] 1");
        CHECK.text("=/3 2 1", "[] 0");
        CHECK.text("&/3 2 5", "[] 2");
        CHECK.text("^/3 9 5", "[] 9");
        CHECK.text("%/1r5", "[] 5");
        CHECK.text("%/5", "[] 5");
        CHECK.text("-/2 3ri6", "[2] 1 4");
        CHECK.text("+/2 2 3ri12", "[2 2] 3 12 21 30");
        CHECK.text("+/i0", "[] 0");
        CHECK.text("*/i0", "[] 1");
        for (String f : "- % | < > = & ^".split(" ")) {
            CHECK.text(f + "/i0", "D");
            CHECK.text(f + "/2 0r1", "D");
            CHECK.text(f + "/0 0r1", "[0]");
            CHECK.text(f + "/0 3r1", "[0]");
            CHECK.text(f + "/7 7 0r1", "S");
        }
        CHECK.text("*/2 0r1", "[2] 1 1");
        CHECK.text("+/48 1 0r1", "[48 1]" + " 0".repeat(48));
        CHECK.text("+/7 7 0r1", "S");
        CHECK.text("+/48 48 0r1", "S");
        CHECK.text("+/0 48 48r1", "[0 48]");
        CHECK.text("+/48 0 48r1", "[48 0]");
        // from the right: the sum fits, a part of it does not
        CHECK.text("+/_1,1," + MOST, "S");
        CHECK.text("+/1,_1," + MOST, "[] 2147483647");
        CHECK.text("%/1 1 0", "D");
        CHECK.text("%/1 0 1", "D");
        CHECK.text("%/1,0," + LEAST + ",_1", "S");
        CHECK.text("%/2 2r1 0," + LEAST + ",_1", "D");
        CHECK.text("%/2 2r" + LEAST + ",_1 1 0", "S");
    }

    private static void scan() {
        CHECK.text("+\\1 2 3", "[3] 1 3 6");
        CHECK.text("-\\1 2 3 4", "[4] 1 -1 2 -2");
        CHECK.text("-\\2 3ri6", "[2 3] 0 -1 1 3 -1 4");
        CHECK.text("*\\2 1 3ri6", "[2 1 3] 0 0 0 3 12 60");
        CHECK.text("&\\3 5 1 2", "[4] 3 3 1 1");
        CHECK.text("%\\5", "[] 5");
        CHECK.text("%\\i0", "[0]");
        CHECK.text("%\\2 0r1", "[2 0]");
        CHECK.text("%\\0 2r1", "[0 2]");
        CHECK.text("%\\4 1r1 2 0 3", "[4 1] 1 2 0 3");
        CHECK.text("%\\1 0 0", "D");
        CHECK.text("%\\6 3 1", "[3] 6 2 2");
        CHECK.text("%\\6 3 2", "D");
        CHECK.text("%\\" + LEAST + ",_1 0", "S");
        CHECK.text("%\\1 0," + LEAST + ",_1", "D");
        CHECK.text("+\\_1,1," + MOST, "S");
        CHECK.text("+\\48r1", Check.outcome(new RankCalc(), "1+i48"));
    }

    private static void inner() {
        CHECK.text("1 2 3+.*4 5 6", "[] 32");
        CHECK.text("1 2 3-.*4 5 6", "[] 12");
        CHECK.text("(i48)+.*48r2", "[] 2256");
        CHECK.text("(2 3ri6)+.*3 2ri6", "[2 2] 10 13 28 40");
        CHECK.text("(2 3ri6)+.*1 2 3", "[2] 8 26");
        CHECK.text("1 2+.*2 3ri6", "[3] 6 9 12");
        CHECK.text("(2 3ri6)^.-3 2ri6", "[2 2] 0 -1 3 2");
        CHECK.text("(2 2 2ri8)+.*2 2ri4", "[2 2 2] 2 3 6 11 10 19 14 27");
        CHECK.text("(2 2ri4)+.*2 2 2ri8", "[2 2 2] 4 5 6 7 12 17 22 27");
        CHECK.text("1 2+.*2 2 2ri8", "[2 2] 8 11 14 17");
        CHECK.text("(2 2 2ri8)-.*1 2", "[2 2] -2 -4 -6 -8");
        CHECK.text("(2 2 2r1)+.*2 2 2r1", "R");
        CHECK.text("5+.*1 2", "R");
        CHECK.text("1 2+.*5", "R");
        CHECK.text("5+.*5", "R");
        CHECK.text("5+.*i0", "R");
        CHECK.text("1 2+.*1 2 3", "L");
        CHECK.text("(2 3r1)+.*2 3r1", "L");
        CHECK.text("(1r2)+.*1 2 3", "L");
        CHECK.text("(7 1r1)+.*1 7r1", "S");
        CHECK.text("(6 1ri6)+.*1 8ri8", Check.outcome(new RankCalc(), "(i6)*@i8"));
        CHECK.text("(7 0r1)-.*0 7r1", "S");
        CHECK.text("(7 1r1)+.%1 7r0", "S");
        CHECK.text("(7 1r1)+.%2 7r0", "L");
        CHECK.text("(i0)+.*i0", "[] 0");
        CHECK.text("(i0)*.+i0", "[] 1");
        CHECK.text("(i0)-.*i0", "D");
        CHECK.text("(2 0r1)+.*0 2r1", "[2 2] 0 0 0 0");
        CHECK.text("(0 2r1)-.*2 3r1", "[0 3]");
        CHECK.text("(0 0r1)-.*0 48 48r1", "[0 48 48]");
        CHECK.text("(2 2r1)-.%2 0r1", "[2 0]");
        // all g first, then f from the right
        CHECK.text("1 1%.%0 1", "D");
        CHECK.text("(1 0 2,_1," + LEAST + ")%.-0 0 0 0 1", "S");
        CHECK.text("(0,_1," + LEAST + ")%.+0 0 0", "D");
        CHECK.text("(1," + LEAST + ",_1)%.+0 0 0", "S");
    }

    private static void outer() {
        CHECK.text("1 2 3*@1 2", "[3 2] 1 2 2 4 3 6");
        CHECK.text("1 2 3-@1 2", "[3 2] 0 -1 1 0 2 1");
        CHECK.text("5-@1 2", "[2] 4 3");
        CHECK.text("1 2-@5", "[2] -4 -3");
        CHECK.text("5-@3", "[] 2");
        CHECK.text("1 2+@2 2ri4", "[2 2 2] 1 2 3 4 2 3 4 5");
        CHECK.text("(2 2ri4)+@1 2", "[2 2 2] 1 2 2 3 3 4 4 5");
        CHECK.text("5+@2 1 2ri4", "[2 1 2] 5 6 7 8");
        CHECK.text("1 2+@2 2 2r1", "R");
        CHECK.text("(2 2r1)+@2 2r1", "R");
        CHECK.text("(i7)+@i7", "S");
        CHECK.text("(i7)%@7r0", "S");
        CHECK.text("(0r1)%@i48", "[0 48]");
        CHECK.text("(i48)%@i0", "[48 0]");
        CHECK.text("(48 48 0r1)%@0", "[48 48 0]");
        CHECK.text("(1," + LEAST + ")%@_1 0", "D");
        CHECK.text("(" + LEAST + ",1)%@_1 0", "S");
    }
}
