/** The sentences of promises 1 to 3 and 5 to 12. */
final class StateBounds {
    private static final long NO_ELEMENT = 4294967296L;
    private static final int[] FAR = {Integer.MIN_VALUE, -2147483647, -65536, -256, -8, -1,
        48, 49, 64, 255, 256, 65536, Integer.MAX_VALUE};

    private final Sentences doc;

    StateBounds(Sentences doc) {
        this.doc = doc;
    }

    void ask() {
        calls();
        newObject();
        feed();
        feedTooMuch();
        clear();
        rank();
        axis();
        size();
        element();
        sum();
        held();
        forget();
        done();
    }

    private void calls() {
        doc.everyPromise("An object is used for at most 512 calls after it has been made;"
                + " what later calls answer is free.");
        RankCalc calc = new RankCalc();
        for (int k = 0; k < 128; k++) {
            calc.clear();
            doc.same("feed of round " + k, calc.feed(Check.word("i48")), 3);
            doc.same("run of round " + k, Check.outcomeOfRun(calc).length(), "[48]".length() + 10 * 2 + 38 * 3);
            doc.same("done of round " + k, calc.done(), 1);
        }
        RankCalc late = new RankCalc();
        late.feed(Check.word("1%0"));
        for (int k = 0; k < 508; k++) {
            doc.same("fault " + k, Check.outcomeOfRun(late), "D");
        }
        late.clear();
        late.feed('7');
        doc.same("call 512", late.run(), 1);
    }

    private void newObject() {
        doc.promise(1, "No text,");
        doc.same("run", new RankCalc().run(), -1);
        RankCalc full = new RankCalc();
        feedBlanks(full, 200);
        doc.same("201", full.feed(' '), -1);

        doc.promise(1, "no names with arrays,");
        RankCalc other = new RankCalc();
        RankCalc calc = new RankCalc();
        for (int k = 0; k < 8; k++) {
            doc.same("name " + k + " of another object", Check.outcome(other, (char) ('A' + k) + ":1"), "[] 1");
            doc.same("held " + k, calc.held(k), -1);
            doc.same("forget " + k, calc.forget(k), false);
            doc.text("" + (char) ('A' + k), "N");
        }

        doc.promise(1, "the result is the vector without elements.");
        doc.same("result", Check.result(new RankCalc()), "[0]");
        doc.same("rank", calc.rank(), 1);
        doc.same("axis 0", calc.axis(0), 0);
        doc.same("axis 1", calc.axis(1), -1);
        doc.same("size", calc.size(), 0);
        doc.same("element 0", calc.element(0), NO_ELEMENT);
        doc.same("sum", calc.sum(), 0L);
        doc.same("done", calc.done(), 0);
    }

    private void feedBlanks(RankCalc calc, int n) {
        for (int k = 0; k < n; k++) {
            doc.same("blank " + (k + 1), calc.feed(' '), 1);
        }
    }

    private void feed() {
        doc.promise(2, "Appends to the text the codes w & 255, w >> 8 & 255, w >> 16 & 255, w >> 24 & 255,");
        RankCalc calc = new RankCalc();
        doc.same("1234", calc.feed(0x34333231), 4);
        doc.same("run", Check.outcomeOfRun(calc), "[] 1234");
        doc.same("56", calc.feed(0x3635), 2);
        doc.same("run", Check.outcomeOfRun(calc), "[] 123456");
        doc.same("789", calc.feed(0x393837), 3);
        doc.same("run", Check.outcomeOfRun(calc), "[] 123456789");
        for (int code = 1; code < 256; code++) {
            for (int k = 0; k < 4; k++) {
                // in the highest place the codes from 128 on make w negative
                int w = 0x20202020 & ~(255 << 8 * k) | code << 8 * k;
                calc.clear();
                doc.same("code " + code + " in place " + k, calc.feed(w), 4);
                boolean digit = code >= '0' && code <= '9';
                doc.same("run of " + w, Check.outcomeOfRun(calc),
                        digit ? "[] " + (code - '0') : code >= 'A' && code <= 'H' ? "N" : "-1");
            }
        }

        doc.promise(2, "up to before the first that is 0: how many;");
        calc.clear();
        doc.same("none", calc.feed(0), 0);
        doc.same("none, 0 first", calc.feed(0x33323100), 0);
        doc.same("none, the highest bit alone", calc.feed(Integer.MIN_VALUE), 0);
        doc.same("none, three codes of 255 behind 0", calc.feed(-256), 0);
        doc.same("none is appended", calc.run(), -1);
        doc.same("one", calc.feed(0x33320031), 1);
        doc.same("one more", calc.feed('2'), 1);
        doc.same("two", calc.feed(0x33003433), 2);
        doc.same("three", calc.feed(0x373635), 3);
        doc.same("four", calc.feed(0x20203938), 4);
        doc.same("run", Check.outcomeOfRun(calc), "[] 123456789");
        doc.same("four of 255", calc.feed(-1), 4);
        doc.same("run", calc.run(), -1);
    }

    private void feedTooMuch() {
        doc.promise(2, "-1, and none is, if there would be more than 200.");
        for (int before = 195; before <= 200; before++) {
            for (int n = 0; n <= 4; n++) {
                RankCalc calc = new RankCalc();
                feedBlanks(calc, before - 1);
                doc.same("7", calc.feed('7'), 1);
                int w = Check.word("1111".substring(0, n));
                boolean fits = before + n <= 200;
                doc.same(n + " behind " + before, calc.feed(w), fits ? n : -1);
                doc.same(n + " behind " + before + " run", Check.outcomeOfRun(calc),
                        "[] 7" + (fits ? "1111".substring(0, n) : ""));
                feedBlanks(calc, 200 - before - (fits ? n : 0));
                doc.same("201", calc.feed(' '), -1);
            }
        }
        RankCalc full = new RankCalc();
        feedBlanks(full, 200);
        doc.same("-1 again", full.feed(-1), -1);
        doc.same("0 before codes", full.feed(0x31313100), 0);
        doc.same("run", full.run(), -1);
    }

    private void clear() {
        doc.promise(3, "The text is empty.");
        RankCalc calc = new RankCalc();
        calc.clear();
        doc.same("empty before", calc.run(), -1);
        doc.on(calc, "A:12 34+1", "[2] 13 35");
        calc.clear();
        doc.same("run", calc.run(), -1);
        calc.clear();
        doc.same("cleared twice", calc.run(), -1);
        doc.same("the result stays", Check.result(calc), "[2] 13 35");
        doc.same("A stays", calc.held(0), 2);
        doc.same("done stays", calc.done(), 1);
        calc.feed('5');
        doc.same("nothing is left behind 5", Check.outcomeOfRun(calc), "[] 5");
        feedBlanks(calc, 199);
        doc.same("full", calc.feed(' '), -1);
        calc.clear();
        feedBlanks(calc, 199);
        doc.same("200 once more", calc.feed('6'), 1);
        doc.same("full once more", calc.feed(' '), -1);
        doc.same("run of 200", Check.outcomeOfRun(calc), "[] 6");
    }

    private void rank() {
        doc.promise(5, "The rank of the result.");
        RankCalc calc = new RankCalc();
        doc.same("new", calc.rank(), 1);
        String[] texts = {"7", "1r7", "i0", "i48", "1 1r7", "0 0r7", "1 1 1r7", "48 48 0r7", "(i0)r7"};
        int[] ranks = {0, 1, 1, 1, 2, 2, 3, 3, 0};
        for (int k = 0; k < texts.length; k++) {
            Check.outcome(calc, texts[k]);
            doc.same(texts[k], calc.rank(), ranks[k]);
        }
        doc.on(calc, "B:2 2r1", "[2 2] 1 1 1 1");
        doc.on(calc, "1%0", "D");
        doc.same("after a fault", calc.rank(), 2);
        doc.on(calc, "1+", "-1");
        doc.same("after -1", calc.rank(), 2);
        calc.forget(1);
        doc.same("after forget", calc.rank(), 2);
    }

    private void axis() {
        doc.promise(6, "The length of the result along axis k (0 the first);");
        RankCalc calc = new RankCalc();
        doc.same("new", calc.axis(0), 0);
        doc.on(calc, "48r7", "[48]" + " 7".repeat(48));
        doc.same("48", calc.axis(0), 48);
        doc.on(calc, "2 0 48r7", "[2 0 48]");
        doc.same("axis 0", calc.axis(0), 2);
        doc.same("axis 1", calc.axis(1), 0);
        doc.same("axis 2", calc.axis(2), 48);

        doc.promise(6, "-1 if it has no such axis.");
        String[] texts = {"7", "i0", "0 0r1", "2 3 4r1"};
        for (int rank = 3; rank >= 0; rank--) {
            // from rank 3 down, so that lengths of an earlier result could be left
            Check.outcome(calc, texts[rank]);
            for (int k = rank; k < 6; k++) {
                doc.same("axis " + k + " of rank " + rank, calc.axis(k), -1);
            }
            for (int k : FAR) {
                doc.same("axis " + k + " of rank " + rank, calc.axis(k), -1);
            }
        }
    }

    private void size() {
        doc.promise(7, "The number of elements of the result.");
        RankCalc calc = new RankCalc();
        doc.same("new", calc.size(), 0);
        String[] texts = {"7", "i0", "i1", "i47", "i48", "6 8r1", "2 3 8r1", "48 48 0r1", "0 48 48r1", "1 1 1r1", "2 3r1"};
        int[] sizes = {1, 0, 1, 47, 48, 48, 48, 0, 0, 1, 6};
        for (int k = 0; k < texts.length; k++) {
            Check.outcome(calc, texts[k]);
            doc.same(texts[k], calc.size(), sizes[k]);
        }
        doc.on(calc, "i49", "S");
        doc.same("after a fault", calc.size(), 6);
    }

    private void element() {
        doc.promise(8, "Element k of the result's row;");
        RankCalc calc = new RankCalc();
        doc.on(calc, "A:147483647+2*999999999+1", "[] 2147483647");
        doc.same("the greatest", calc.element(0), 2147483647L);
        doc.on(calc, "_1-A", "[] -2147483648");
        doc.same("the least", calc.element(0), -2147483648L);
        doc.on(calc, "_1", "[] -1");
        doc.same("_1", calc.element(0), -1L);
        Check.outcome(calc, "2 3 8r100+i48");
        for (int k = 0; k < 48; k++) {
            doc.same("element " + k, calc.element(k), 100L + k);
        }

        doc.promise(8, "4294967296 if there is none.");
        doc.same("new", new RankCalc().element(0), NO_ELEMENT);
        for (int k : FAR) {
            doc.same("element " + k + " of 48", calc.element(k), NO_ELEMENT);
        }
        for (int n = 47; n >= 0; n--) {
            Check.outcome(calc, n + "r5");
            doc.same("element " + n + " of " + n, calc.element(n), NO_ELEMENT);
            doc.same("element -1 of " + n, calc.element(-1), NO_ELEMENT);
            doc.same("element " + (n - 1) + " of " + n, calc.element(n - 1), n == 0 ? NO_ELEMENT : 5L);
        }
        Check.outcome(calc, "7");
        doc.same("element 1 of a scalar", calc.element(1), NO_ELEMENT);
        Check.outcome(calc, "48 48 0r7");
        doc.same("element 0 of none", calc.element(0), NO_ELEMENT);
    }

    private void sum() {
        doc.promise(9, "The sum of the result's elements.");
        RankCalc calc = new RankCalc();
        doc.same("new", calc.sum(), 0L);
        Check.outcome(calc, "A:147483647+2*999999999+1");
        doc.same("the greatest", calc.sum(), 2147483647L);
        Check.outcome(calc, "A,1");
        doc.same("just no int", calc.sum(), 2147483648L);
        Check.outcome(calc, "48rA");
        doc.same("48 of the greatest", calc.sum(), 103079215056L);
        Check.outcome(calc, "48r_1-A");
        doc.same("48 of the least", calc.sum(), -103079215104L);
        Check.outcome(calc, "A,_1-A");
        doc.same("both", calc.sum(), -1L);
        Check.outcome(calc, "2 2 2ri8");
        doc.same("rank 3", calc.sum(), 28L);
        Check.outcome(calc, "i0");
        doc.same("none", calc.sum(), 0L);
        Check.outcome(calc, "_5");
        doc.same("a scalar", calc.sum(), -5L);
    }

    private void held() {
        doc.promise(10, "The number of elements of name k (0 A .. 7 H);");
        RankCalc calc = new RankCalc();
        String[] texts = {"i0", "7", "i48", "2 3 8r1", "48 48 0r1", "1 1 1r1", "2 2r1", "i47"};
        int[] sizes = {0, 1, 48, 48, 0, 1, 4, 47};
        for (int k = 0; k < 8; k++) {
            Check.outcome(calc, (char) ('A' + k) + ":" + texts[k]);
            doc.same((char) ('A' + k) + ":" + texts[k], calc.held(k), sizes[k]);
        }
        for (int k = 0; k < 8; k++) {
            doc.same("held " + k, calc.held(k), sizes[k]);
        }
        Check.outcome(calc, "C:5");
        doc.same("C anew", calc.held(2), 1);

        doc.promise(10, "-1 if it has no array or there is no such name.");
        doc.same("forgotten", calc.forget(0) ? calc.held(0) : -2, -1);
        doc.same("8", calc.held(8), -1);
        for (int k : FAR) {
            doc.same("held " + k, calc.held(k), -1);
        }
        RankCalc other = new RankCalc();
        doc.on(other, "D:i49", "S");
        doc.same("a fault", other.held(3), -1);
        doc.on(other, "D:1+", "-1");
        doc.same("no statement", other.held(3), -1);
    }

    private void forget() {
        doc.promise(11, "Name k has no array any more;");
        for (int k = 0; k < 8; k++) {
            RankCalc calc = new RankCalc();
            for (int name = 0; name < 8; name++) {
                Check.outcome(calc, (char) ('A' + name) + ":i" + name);
            }
            doc.same("forget " + k, calc.forget(k), true);
            for (int name = 0; name < 8; name++) {
                doc.same("held " + name + " without " + k, calc.held(name), name == k ? -1 : name);
            }
            doc.on(calc, "" + (char) ('A' + k), "N");
            doc.same("the result stays", Check.result(calc), "[7] 0 1 2 3 4 5 6");
            doc.on(calc, (char) ('A' + k) + ":9", "[] 9");
            doc.same("held anew", calc.held(k), 1);
            doc.same("forget anew", calc.forget(k), true);
        }

        doc.promise(11, "false if it had none or there is no such name.");
        RankCalc calc = new RankCalc();
        for (int k = 0; k < 8; k++) {
            doc.same("had none " + k, calc.forget(k), false);
            Check.outcome(calc, (char) ('A' + k) + ":i0");
        }
        doc.same("without elements is an array", calc.forget(4), true);
        doc.same("twice", calc.forget(4), false);
        doc.same("8", calc.forget(8), false);
        for (int k : FAR) {
            doc.same("forget " + k, calc.forget(k), false);
        }
        for (int k = 0; k < 8; k++) {
            doc.same("the others " + k, calc.held(k), k == 4 ? -1 : 0);
        }
    }

    private void done() {
        doc.promise(12, "How many functions were done in the latest run that was no -1,");
        RankCalc calc = new RankCalc();
        done(calc, "5", "[] 5", 0);
        done(calc, "((((((5))))))", "[] 5", 0);
        done(calc, "A:1 2 3", "[3] 1 2 3", 0);
        done(calc, "-A", "[3] -1 -2 -3", 1);
        done(calc, "+/A", "[] 6", 1);
        done(calc, "+\\A", "[3] 1 3 6", 1);
        done(calc, "A+.*A", "[] 14", 1);
        done(calc, "5+@6", "[] 11", 1);
        done(calc, "ri0", "[1] 0", 2);
        done(calc, "((1+2)*3)-4", "[] 5", 3);
        done(calc, "-(i0)+i0", "[0]", 4);
        done(calc, "B:" + "-".repeat(197) + "1", "[] -1", 197);
        for (String text : new String[] {"", "1+", "-(((((((1)))))))", "-1%0)"}) {
            done(calc, text, "-1", 197);
        }
        calc.clear();
        calc.forget(0);
        doc.same("done after clear and forget", calc.done(), 197);
        done(calc, "6", "[] 6", 0);

        doc.promise(12, "one with a fault not counted;");
        done(calc, "1%0", "D", 0);
        done(calc, "H", "N", 0);
        done(calc, "-1%0", "D", 0);
        done(calc, "--1%0", "D", 0);
        done(calc, "H+-|1", "N", 2);
        done(calc, "1+2+H", "N", 0);
        done(calc, "(1%0)+1+2", "D", 1);
        done(calc, "(H)+1+2", "N", 1);
        done(calc, "1 2+1 2,3", "L", 1);
        done(calc, "(2 2r1)+1 2+3", "R", 2);
        done(calc, "9pi3", "X", 1);
        done(calc, "1,i48", "S", 1);
        done(calc, "1+", "-1", 1);

        doc.promise(12, "0 if there was none.");
        RankCalc idle = new RankCalc();
        doc.same("new", idle.done(), 0);
        done(idle, "", "-1", 0);
        done(idle, "1+-", "-1", 0);
    }

    private void done(RankCalc calc, String text, String outcome, int want) {
        doc.on(calc, text, outcome);
        doc.same("done of " + text, calc.done(), want);
    }
}
