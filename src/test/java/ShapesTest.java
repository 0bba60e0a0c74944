/** The functions i r , t v p. */
public final class ShapesTest {
    private static final Check CHECK = new Check();

    public static void main(String[] args) {
        upTo();
        lengths();
        reshape();
        elements();
        join();
        turn();
        pick();
        CHECK.end();
    }

    private static void upTo() {
        CHECK.text("i3", "[3] 0 1 2");
        CHECK.text("i1r3", "[3] 0 1 2");
        CHECK.text("i0", "[0]");
        CHECK.text("+/i48", "[] 1128");
        CHECK.text("i49", "S");
        CHECK.text("i999999999", "S");
        CHECK.text("i_1", "D");
        CHECK.text("i1r_1", "D");
        CHECK.text("i1 2", "L");
        CHECK.text("i_1 99", "L");
        CHECK.text("ii0", "L");
        CHECK.text("i1 1r3", "R");
        CHECK.text("i2 2r_1", "R");
        CHECK.text("i0 0r1", "R");
    }

    private static void lengths() {
        CHECK.text("r5", "[0]");
        CHECK.text("r1r5", "[1] 1");
        CHECK.text("ri0", "[1] 0");
        CHECK.text("r2 3r1", "[2] 2 3");
        CHECK.text("r2 3 4r1", "[3] 2 3 4");
        CHECK.text("rr2 3 4r1", "[1] 3");
        CHECK.text("r48 48 0r1", "[3] 48 48 0");
    }

    private static void reshape() {
        CHECK.text("3r5", "[3] 5 5 5");
        CHECK.text("5r1 2", "[5] 1 2 1 2 1");
        CHECK.text("2 3r1 2 3 4", "[2 3] 1 2 3 4 1 2");
        CHECK.text("2ri6", "[2] 0 1");
        CHECK.text("2 1 2r3 3ri9", "[2 1 2] 0 1 2 3");
        CHECK.text("(i0)r7 8", "[] 7");
        CHECK.text("(i0)ri0", "L");
        CHECK.text("0ri0", "[0]");
        CHECK.text("2 0ri0", "[2 0]");
        CHECK.text("0 3r2 0r1", "[0 3]");
        CHECK.text("1ri0", "L");
        CHECK.text("1 1 1 1r5", "R");
        CHECK.text("_1 1 1 99r5", "R");
        CHECK.text("(1 1r5)r5", "R");
        CHECK.text("(0 0r5)r5", "R");
        CHECK.text("_1r5", "D");
        CHECK.text("2 _1r5", "D");
        CHECK.text("0 _1r5", "D");
        CHECK.text("99 _1r5", "D");
        CHECK.text("_1ri0", "D");
        CHECK.text("49r5", "S");
        CHECK.text("0 49r5", "S");
        CHECK.text("49 0r5", "S");
        CHECK.text("7 7r5", "S");
        CHECK.text("48 48 48r5", "S");
        CHECK.text("999999999 999999999 999999999r5", "S");
        CHECK.text("65536 65536r5", "S");
        CHECK.text("49ri0", "S");
        CHECK.text("7 7ri0", "S");
        CHECK.text("48 48 0r5", "[48 48 0]");
        CHECK.text("48r1", "[48]" + " 1".repeat(48));
        CHECK.text("2 3 8r1", "[2 3 8]" + " 1".repeat(48));
    }

    private static void elements() {
        CHECK.text(",5", "[1] 5");
        CHECK.text(",1 2", "[2] 1 2");
        CHECK.text(",2 1 2ri4", "[4] 0 1 2 3");
        CHECK.text(",48 48 0r1", "[0]");
    }

    private static void join() {
        CHECK.text("1,2", "[2] 1 2");
        CHECK.text("1,2 3", "[3] 1 2 3");
        CHECK.text("1 2,3", "[3] 1 2 3");
        CHECK.text("1 2,3 4", "[4] 1 2 3 4");
        CHECK.text("1,i0", "[1] 1");
        CHECK.text("(i0),1", "[1] 1");
        CHECK.text("(i0),i0", "[0]");
        CHECK.text("(2 2ri4),2 1r8 9", "[2 3] 0 1 8 2 3 9");
        CHECK.text("(2 2ri4),9", "[2 3] 0 1 9 2 3 9");
        CHECK.text("9,2 2ri4", "[2 3] 9 0 1 9 2 3");
        CHECK.text("9,2 1 2ri4", "[2 1 3] 9 0 1 9 2 3");
        CHECK.text("(2 2ri4),8 9", "[2 3] 0 1 8 2 3 9");
        CHECK.text("8 9,2 2ri4", "[2 3] 8 0 1 9 2 3");
        CHECK.text("(2 2 1ri4),2 2r5 6 7 8", "[2 2 2] 0 5 1 6 2 7 3 8");
        CHECK.text("(2 2r5 6 7 8),2 2 1ri4", "[2 2 2] 5 0 6 1 7 2 8 3");
        CHECK.text("(2 2 1ri4),2 2 2ri8", "[2 2 3] 0 0 1 1 2 3 2 4 5 3 6 7");
        CHECK.text("1 2,2 2 1r1", "R");
        CHECK.text("(2 2 1r1),1 2", "R");
        CHECK.text("(i0),9 9 0r1", "R");
        CHECK.text("(2 2r1),3 2r1", "L");
        CHECK.text("(2 2r1),1 2 3", "L");
        CHECK.text("1 2 3,2 2r1", "L");
        CHECK.text("(2 2 2r1),2 3 2r1", "L");
        CHECK.text("(2 2 2r1),3 2 2r1", "L");
        CHECK.text("(2 2 2r1),2 3r1", "L");
        CHECK.text("(i24),i24", "[48] " + "0 1 2 3 4 5 6 7 8 9 10 11 12 13 14 15 16 17 18 19 20 21 22 23 ".repeat(2).trim());
        CHECK.text("(i24),i25", "S");
        CHECK.text("1,i48", "S");
        CHECK.text("(2 24r1),1", "S");
        CHECK.text("(2 24r1),1 48r1", "L");
        CHECK.text("(0 25r1),0 25r1", "S");
        CHECK.text("(0 24r1),0 24r1", "[0 48]");
        CHECK.text("5,7 7 0r1", "S");
        CHECK.text("5,2 0r1", "[2 1] 5 5");
        CHECK.text("5,0 2r1", "[0 3]");
        CHECK.text("(i0),0 2r1", "[0 3]");
        CHECK.text("(48 48 0r1),48 48 0r1", "[48 48 0]");
        CHECK.text("(7 7 0r1),7 7 0r1", "[7 7 0]");
        CHECK.text("(2 0r1),2 2ri4", "[2 2] 0 1 2 3");
    }

    private static void turn() {
        CHECK.text("t5", "[] 5");
        CHECK.text("t1 2 3", "[3] 1 2 3");
        CHECK.text("t2 3ri6", "[3 2] 0 3 1 4 2 5");
        CHECK.text("t2 3 4ri24", "[4 3 2] 0 12 4 16 8 20 1 13 5 17 9 21 2 14 6 18 10 22 3 15 7 19 11 23");
        CHECK.text("t0 3 4r1", "[4 3 0]");
        CHECK.text("t2 0r1", "[0 2]");
        CHECK.text("t1 48r1", "[48 1]" + " 1".repeat(48));
        CHECK.text("t48 1r1", "[1 48]" + " 1".repeat(48));
        CHECK.text("ti48", Check.outcome(new RankCalc(), "i48"));
        CHECK.text("t48 0 47r1", "[47 0 48]");
        CHECK.text("v5", "[] 5");
        CHECK.text("v1 2 3", "[3] 3 2 1");
        CHECK.text("v2 3ri6", "[2 3] 2 1 0 5 4 3");
        CHECK.text("v2 2 2ri8", "[2 2 2] 1 0 3 2 5 4 7 6");
        CHECK.text("vi0", "[0]");
        CHECK.text("v2 0r1", "[2 0]");
        CHECK.text("v0 2r1", "[0 2]");
    }

    private static void pick() {
        CHECK.text("1p5 6 7", "[] 6");
        CHECK.text("2 0 2p5 6 7", "[3] 7 5 7");
        CHECK.text("(i48)pi48", Check.outcome(new RankCalc(), "i48"));
        CHECK.text("1p2 3ri6", "[3] 3 4 5");
        CHECK.text("1 0 1p2 2ri4", "[3 2] 2 3 0 1 2 3");
        CHECK.text("1p2 2 2ri8", "[2 2] 4 5 6 7");
        CHECK.text("1 0p2 2 2ri8", "[2 2 2] 4 5 6 7 0 1 2 3");
        CHECK.text("(2 2r0 1 1 0)p5 6", "[2 2] 5 6 6 5");
        CHECK.text("(2 2r0 1 1 0)p2 2ri4", "[2 2 2] 0 1 2 3 2 3 0 1");
        CHECK.text("(1 2 2r0 1 1 0)p5 6", "[1 2 2] 5 6 6 5");
        CHECK.text("(1 2 2r0)p2 2r1", "R");
        CHECK.text("(2 2r0)p2 2 2r1", "R");
        CHECK.text("0p5", "R");
        CHECK.text("(i0)p5", "R");
        CHECK.text("9p5", "R");
        CHECK.text("3p5 6 7", "X");
        CHECK.text("_1p5 6 7", "X");
        CHECK.text("0 1 3p5 6 7", "X");
        CHECK.text("0pi0", "X");
        CHECK.text("5p2 0r1", "X");
        CHECK.text("1p2 0r1", "[0]");
        CHECK.text("(i0)p5 6", "[0]");
        CHECK.text("(i0)pi0", "[0]");
        CHECK.text("(i0)p2 3r1", "[0 3]");
        CHECK.text("(0 48r0)p0 48r1", "[0 48 48]");
        CHECK.text("(25r0)p2 2r1", "S");
        CHECK.text("(25r9)p2 2r1", "S");
        CHECK.text("0p0 48 48r1", "S");
        CHECK.text("(24r0)p2 2r1", "[24 2]" + " 1".repeat(48));
    }
}
