/** Promises 1 to 3 and 5 to 12: what is kept between calls, and what is told of it. */
public final class StateTest {
    private static final Check CHECK = new Check();

    public static void main(String[] args) {
        newObject();
        feeding();
        clearing();
        looking();
        naming();
        faultsChangeNothing();
        counting();
        CHECK.end();
    }

    private static void newObject() {
        RankCalc calc = new RankCalc();
        CHECK.same("new rank", calc.rank(), 1);
        CHECK.same("new axis 0", calc.axis(0), 0);
        CHECK.same("new axis 1", calc.axis(1), -1);
        CHECK.same("new size", calc.size(), 0);
        CHECK.same("new element", calc.element(0), 4294967296L);
        CHECK.same("new sum", calc.sum(), 0L);
        CHECK.same("new done", calc.done(), 0);
        for (int k = 0; k < 8; k++) {
            CHECK.same("new held " + k, calc.held(k), -1);
            CHECK.same("new forget " + k, calc.forget(k), false);
        }
        CHECK.same("new run", calc.run(), -1);
        CHECK.same("feed to 200", fill(calc, 50), 50);
    }

    private static int fill(RankCalc calc, int words) {
        int whole = 0;
        for (int k = 0; k < words; k++) {
            whole += calc.feed(Check.word("    ")) == 4 ? 1 : 0;
        }
        return whole;
    }

    private static void feeding() {
        RankCalc calc = new RankCalc();
        CHECK.same("feed 0", calc.feed(0), 0);
        CHECK.same("feed 1", calc.feed('1'), 1);
        CHECK.same("feed ends at 0", calc.feed('2' | '3' << 16), 1);
        CHECK.same("feed begins with 0", calc.feed('4' << 8), 0);
        CHECK.same("feed 3", calc.feed(Check.word("+A3") & 0xff | '5' << 8 | '6' << 16), 3);
        CHECK.same("fed 12+56", Check.outcomeOfRun(calc), "[] 68");
        CHECK.same("a text stays after run", Check.outcomeOfRun(calc), "[] 68");
        CHECK.same("feed negative", calc.feed(-1), 4);
        CHECK.same("255 is no token", calc.run(), -1);

        RankCalc full = new RankCalc();
        CHECK.same("49 words", fill(full, 49), 49);
        CHECK.same("197", full.feed(' '), 1);
        CHECK.same("201", full.feed(Check.word("    ")), -1);
        CHECK.same("200", full.feed(Check.word("  7")), 3);
        CHECK.same("200 and 1", full.feed('1'), -1);
        CHECK.same("200 and 0", full.feed(0), 0);
        CHECK.same("200 and 0 before 1", full.feed('1' << 24), 0);
        CHECK.same("200 run", Check.outcomeOfRun(full), "[] 7");
        full.clear();
        CHECK.same("after clear", full.feed('1'), 1);
        CHECK.same("after clear run", Check.outcomeOfRun(full), "[] 1");
    }

    private static void clearing() {
        RankCalc calc = new RankCalc();
        Check.outcome(calc, "A:1 2+3");
        calc.clear();
        CHECK.same("cleared result", Check.result(calc), "[2] 4 5");
        CHECK.same("cleared held", calc.held(0), 2);
        CHECK.same("cleared done", calc.done(), 1);
        CHECK.same("cleared run", calc.run(), -1);
    }

    private static void looking() {
        RankCalc calc = new RankCalc();
        CHECK.same("2 3 4", Check.outcome(calc, "2 3 4r_1 5"), "[2 3 4]" + " -1 5".repeat(12));
        CHECK.same("rank", calc.rank(), 3);
        CHECK.same("axis 2", calc.axis(2), 4);
        CHECK.same("axis 3", calc.axis(3), -1);
        CHECK.same("axis -1", calc.axis(-1), -1);
        CHECK.same("axis least", calc.axis(Integer.MIN_VALUE), -1);
        CHECK.same("size", calc.size(), 24);
        CHECK.same("element 23", calc.element(23), 5L);
        CHECK.same("element 24", calc.element(24), 4294967296L);
        CHECK.same("element -1", calc.element(-1), 4294967296L);
        CHECK.same("element most", calc.element(Integer.MAX_VALUE), 4294967296L);
        CHECK.same("sum", calc.sum(), 48L);
        CHECK.same("large", Check.outcome(calc, "48r147483647+2*999999999+1"), "[48]" + " 2147483647".repeat(48));
        CHECK.same("sum beyond int", calc.sum(), 48L * Integer.MAX_VALUE);
        CHECK.same("small", Check.outcome(calc, "48r_147483648-2*999999999+1"), "[48]" + " -2147483648".repeat(48));
        CHECK.same("sum below int", calc.sum(), 48L * Integer.MIN_VALUE);
        CHECK.same("scalar", Check.outcome(calc, "7"), "[] 7");
        CHECK.same("axis of a scalar", calc.axis(0), -1);
        CHECK.same("an old element", calc.element(1), 4294967296L);
    }

    private static void naming() {
        RankCalc calc = new RankCalc();
        for (int k = 0; k < 8; k++) {
            CHECK.same("name " + k, Check.outcome(calc, (char) ('A' + k) + ":i" + k), Check.outcome(calc, "i" + k));
        }
        for (int k = 0; k < 8; k++) {
            CHECK.same("held " + k, calc.held(k), k);
        }
        CHECK.same("held 8", calc.held(8), -1);
        CHECK.same("held -1", calc.held(-1), -1);
        CHECK.same("forget 8", calc.forget(8), false);
        CHECK.same("forget -1", calc.forget(-1), false);
        CHECK.same("forget most", calc.forget(Integer.MAX_VALUE), false);
        CHECK.same("again", Check.outcome(calc, "C:C,C"), "[4] 0 1 0 1");
        CHECK.same("held again", calc.held(2), 4);
        CHECK.same("forget 2", calc.forget(2), true);
        CHECK.same("forget 2 again", calc.forget(2), false);
        CHECK.same("held 2", calc.held(2), -1);
        CHECK.same("result is left", Check.result(calc), "[4] 0 1 0 1");
        CHECK.same("no C", Check.outcome(calc, "C"), "N");
        CHECK.same("others are left", Check.outcome(calc, "D,H"), "[10] 0 1 2 0 1 2 3 4 5 6");
        CHECK.same("C anew", Check.outcome(calc, " C : 5"), "[] 5");
        CHECK.same("held scalar", calc.held(2), 1);
        CHECK.same("copies", Check.outcome(calc, "B:D"), "[3] 0 1 2");
        CHECK.same("forget D", calc.forget(3), true);
        CHECK.same("B stays", Check.outcome(calc, "B"), "[3] 0 1 2");
        Check.outcome(calc, "B+1");
        CHECK.same("B stays 2", Check.outcome(calc, "B"), "[3] 0 1 2");
    }

    private static void faultsChangeNothing() {
        RankCalc calc = new RankCalc();
        Check.outcome(calc, "A:1 2 3");
        Check.outcome(calc, "B:2 2r4");
        String[] faulty = {"A:1%0", "A:A+1 2", "A:B+A", "A:9pA", "A:C", "A:i49", "C:1%0"};
        String[] letters = {"D", "L", "R", "X", "N", "S", "D"};
        for (int k = 0; k < faulty.length; k++) {
            CHECK.same(faulty[k], Check.outcome(calc, faulty[k]), letters[k]);
            CHECK.same("result after " + faulty[k], Check.result(calc), "[2 2] 4 4 4 4");
            CHECK.same("A after " + faulty[k], calc.held(0), 3);
            CHECK.same("C after " + faulty[k], calc.held(2), -1);
        }
        CHECK.same("no statement", Check.outcome(calc, "A:1+"), "-1");
        CHECK.same("result after -1", Check.result(calc), "[2 2] 4 4 4 4");
        CHECK.same("A", Check.outcome(calc, "A"), "[3] 1 2 3");
    }

    private static void counting() {
        RankCalc calc = new RankCalc();
        done(calc, "5", 0);
        done(calc, "-5", 1);
        done(calc, "1+2*3", 2);
        done(calc, "+/i5", 2);
        done(calc, "(1+2)*-3 4", 3);
        done(calc, "(i3)+.*i3", 3);
        done(calc, "(i3)+@*\\i3", 4);
        done(calc, "A:((5))", 0);
        done(calc, "(1+2)%0", 1);
        done(calc, "1+", 1);
        done(calc, "", 1);
        done(calc, "1%0", 0);
        done(calc, "B+-|1", 2);
        done(calc, "1+2+B", 0);
        done(calc, "1+-1%0", 0);
        done(calc, "-".repeat(199) + "1", 199);
    }

    private static void done(RankCalc calc, String text, int want) {
        Check.outcome(calc, text);
        CHECK.same("done of " + text, calc.done(), want);
    }
}
