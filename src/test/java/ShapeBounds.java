/** The sentences of the terms on i r , t v p, and on faults that come together. */
final class ShapeBounds {
    private final Sentences doc;

    ShapeBounds(Sentences doc) {
        this.doc = doc;
    }

    void ask() {
        upTo();
        lengths();
        reshape();
        reshapeFaults();
        elements();
        join();
        joinRanks();
        turn();
        pick();
        faultsTogether();
    }

    private void upTo() {
        doc.promise(4, "i (one): a scalar n or a vector of one element n: the vector 0 .. n - 1.");
        doc.text("i0", "[0]");
        doc.text("i1", "[1] 0");
        doc.text("i3", "[3] 0 1 2");
        doc.text("i1r0", "[0]");
        doc.text("i1r3", "[3] 0 1 2");
        doc.text("i,3", "[3] 0 1 2");
        doc.text("+/i48", "[] 1128");
        doc.text("47pi48", "[] 47");
        doc.text("r i,48", "[1] 48");

        doc.promise(4, "R if the rank is above 1;");
        doc.text("i1 1r3", "R");
        doc.text("i1 1 1r3", "R");
        doc.text("i2 2r_1", "R");
        doc.text("i0 0r3", "R");
        doc.text("i1 1r99", "R");

        doc.promise(4, "L if it is a vector of another length;");
        doc.text("ii0", "L");
        doc.text("i1 2", "L");
        doc.text("i_1 2", "L");
        doc.text("i99 99", "L");
        doc.text("ii48", "L");

        doc.promise(4, "D if n < 0;");
        doc.text("i_1", "D");
        doc.text("i1r_1", "D");
        doc.text("i_48", "D");
        doc.text("i_49", "D");
        doc.ends("iB", "D");
        doc.text("i_0", "[0]");

        doc.promise(4, "S if n > 48.");
        doc.text("i49", "S");
        doc.text("i1r49", "S");
        doc.text("i256", "S");
        doc.text("i65536", "S");
        doc.ends("iA", "S");
        doc.ends("i,A", "S");
    }

    private void lengths() {
        doc.promise(4, "r (one): the vector of the lengths.");
        doc.text("r5", "[0]");
        doc.text("r1r5", "[1] 1");
        doc.text("ri0", "[1] 0");
        doc.text("ri48", "[1] 48");
        doc.text("r2 3r1", "[2] 2 3");
        doc.text("r0 0r1", "[2] 0 0");
        doc.text("r2 3 8r1", "[3] 2 3 8");
        doc.text("r48 0 47r1", "[3] 48 0 47");
        doc.text("rr5", "[1] 0");
        doc.text("rrr5", "[1] 1");
    }

    private void reshape() {
        doc.promise(4, "r (two): the array with the lengths on the left (a scalar or a vector)"
                + " whose elements are the right ones in a row, over and over.");
        doc.text("3r5", "[3] 5 5 5");
        doc.text("(1r3)r5", "[3] 5 5 5");
        doc.text("5r1 2", "[5] 1 2 1 2 1");
        doc.text("4r1 2", "[4] 1 2 1 2");
        doc.text("2 3r1 2 3 4", "[2 3] 1 2 3 4 1 2");
        doc.text("2r1 2 3", "[2] 1 2");
        doc.text("1r1 2 3", "[1] 1");
        doc.text("0r1 2 3", "[0]");
        doc.text("(i0)r8 9", "[] 8");
        doc.text("(i0)r2 2r8 9", "[] 8");
        doc.text("3 2r2 3ri6", "[3 2] 0 1 2 3 4 5");
        doc.text("2 1 2ri4", "[2 1 2] 0 1 2 3");
        doc.text("6 8ri47", "[6 8]" + Check.outcome(new RankCalc(), "i47").substring(4) + " 0");
        doc.text("1 1 1ri48", "[1 1 1] 0");
        doc.text("2 3 8r7", "[2 3 8]" + " 7".repeat(48));

        doc.promise(4, "R if the left one's rank is above 1 or it has more than 3 elements;");
        doc.text("(1 1r5)r5", "R");
        doc.text("(1 1 1r5)r5", "R");
        doc.text("(0 0r5)r5", "R");
        doc.text("(1 3r1)r5", "R");
        doc.text("(3 1r1)r5", "R");
        doc.text("1 1 1r5", "[1 1 1] 5");
        doc.text("1 1 1 1r5", "R");
        doc.text("1 1 1 1 1r5", "R");
        doc.text("0 0 0 0r5", "R");
        doc.text("(48r1)r5", "R");
        doc.text("_1 1 1 1r5", "R");
        doc.text("1 1 1 _1r5", "R");
        doc.text("99 1 1 1r5", "R");
        doc.text("1 1 1 1ri0", "R");
        doc.text("(1 1r_1)r5", "R");
    }

    private void reshapeFaults() {
        doc.promise(4, "D if one is below 0;");
        doc.text("_1r5", "D");
        doc.text("(1r_1)r5", "D");
        doc.text("_1 2r5", "D");
        doc.text("2 _1r5", "D");
        doc.text("2 2 _1r5", "D");
        doc.text("0 _1r5", "D");
        doc.text("_1 _1r5", "D");
        doc.text("99 _1r5", "D");
        doc.text("7 7 _1r5", "D");
        doc.text("_1ri0", "D");
        doc.ends("Br5", "D");
        doc.text("_0r5", "[0]");

        doc.promise(4, "S; L if the right one has no elements and the result has.");
        doc.text("48r5", "[48]" + " 5".repeat(48));
        doc.text("49r5", "S");
        doc.text("7 7r5", "S");
        doc.text("0 49r5", "S");
        doc.text("49 0r5", "S");
        doc.text("65536 65536r5", "S");
        doc.text("65536 65536 0r5", "S");
        doc.ends("Ar5", "S");
        doc.ends("(A,A,A)r5", "S");
        doc.ends("(A,0)r5", "S");
        doc.text("49ri0", "S");
        doc.text("7 7ri0", "S");
        doc.text("1ri0", "L");
        doc.text("(i0)ri0", "L");
        doc.text("48ri0", "L");
        doc.text("2 3 8r0 3r1", "L");
        doc.text("1 1 1r48 48 0r1", "L");
        doc.text("0ri0", "[0]");
        doc.text("2 0ri0", "[2 0]");
        doc.text("0 48 48r48 48 0r1", "[0 48 48]");
    }

    private void elements() {
        doc.promise(4, ", (one): the vector of the elements.");
        doc.text(",5", "[1] 5");
        doc.text(",1r5", "[1] 5");
        doc.text(",i0", "[0]");
        doc.text(",1 2", "[2] 1 2");
        doc.text(",2 2r4 3 2 1", "[4] 4 3 2 1");
        doc.text(",1 2 2r4 3 2 1", "[4] 4 3 2 1");
        doc.text(",2 3 8ri48", Check.outcome(new RankCalc(), "i48"));
        doc.text(",48 48 0r1", "[0]");
    }

    private void join() {
        doc.promise(4, ", (two): joined along the last axis.");
        doc.text("1 2,3 4 5", "[5] 1 2 3 4 5");
        doc.text("(i0),1 2", "[2] 1 2");
        doc.text("1 2,i0", "[2] 1 2");
        doc.text("(i0),i0", "[0]");
        doc.text("(2 2ri4),2 1r8 9", "[2 3] 0 1 8 2 3 9");
        doc.text("(2 1r8 9),2 2ri4", "[2 3] 8 0 1 9 2 3");
        doc.text("(1 2 2ri4),1 2 1r8 9", "[1 2 3] 0 1 8 2 3 9");
        doc.text("(2 0r1),2 2ri4", "[2 2] 0 1 2 3");
        doc.text("(2 2ri4),2 0r1", "[2 2] 0 1 2 3");
        doc.text("(0 2r1),0 3r1", "[0 5]");
        doc.text("(48 48 0r1),48 48 0r1", "[48 48 0]");
        doc.text("(i47),47", Check.outcome(new RankCalc(), "i48"));
        doc.text("(i48),i0", Check.outcome(new RankCalc(), "i48"));
        doc.text("(i48),7", "S");
        doc.text("7,i48", "S");
        doc.text("(i24),i25", "S");
        doc.text("(0 24r1),0 24r1", "[0 48]");
        doc.text("(0 24r1),0 25r1", "S");
        doc.text("(2 12r1),2 12r1", "[2 24]" + " 1".repeat(48));
        doc.text("(2 12r1),2 13r1", "S");

        doc.promise(4, "Two scalars make a vector of two.");
        doc.text("1,2", "[2] 1 2");
        doc.text("((i0)r1),(i0)r2", "[2] 1 2");
        doc.ends("A,B", "[2] 2147483647 -2147483648");

        doc.promise(4, "A scalar with another array becomes one of its rank with last length 1"
                + " and the other lengths of that one.");
        doc.text("1,2 3", "[3] 1 2 3");
        doc.text("2 3,1", "[3] 2 3 1");
        doc.text("1,i0", "[1] 1");
        doc.text("(i0),1", "[1] 1");
        doc.text("9,2 2ri4", "[2 3] 9 0 1 9 2 3");
        doc.text("(2 2ri4),9", "[2 3] 0 1 9 2 3 9");
        doc.text("9,2 1 2ri4", "[2 1 3] 9 0 1 9 2 3");
        doc.text("(2 1 2ri4),9", "[2 1 3] 0 1 9 2 3 9");
        doc.text("9,2 0r1", "[2 1] 9 9");
        doc.text("(2 0r1),9", "[2 1] 9 9");
        doc.text("9,0 2r1", "[0 3]");
        doc.text("(2 0 2r1),9", "[2 0 3]");
        doc.text("9,6 8 0r1", "[6 8 1]" + " 9".repeat(48));
        doc.text("9,7 7 0r1", "S");
        doc.text("(7 7 0r1),9", "S");
        doc.text("9,0 48r1", "S");
        doc.text("9,24 1r1", "[24 2]" + " 9 1".repeat(24));
        doc.text("9,25 1r1", "S");
    }

    private void joinRanks() {
        doc.promise(4, "If the ranks (none 0) differ by 1, the lower one gets a last axis of length 1;");
        doc.text("8 9,2 2ri4", "[2 3] 8 0 1 9 2 3");
        doc.text("(2 2ri4),8 9", "[2 3] 0 1 8 2 3 9");
        doc.text("(2 2r6 7 8 9),2 2 1ri4", "[2 2 2] 6 0 7 1 8 2 9 3");
        doc.text("(2 2 1ri4),2 2r6 7 8 9", "[2 2 2] 0 6 1 7 2 8 3 9");
        doc.text("8 9,2 0r1", "[2 1] 8 9");
        doc.text("(i0),0 2r1", "[0 3]");
        doc.text("(0 2r1),0 2 4r1", "[0 2 5]");
        doc.text("(1r5),1 1r6", "[1 2] 5 6");
        doc.text("(24r5),24 1r6", "[24 2]" + " 5 6".repeat(24));
        doc.text("(25r5),25 1r6", "S");
        doc.text("(i0),0 48r6", "S");

        doc.promise(4, "by 2: R.");
        doc.text("(1r5),1 1 1r6", "R");
        doc.text("(1 1 1r6),1r5", "R");
        doc.text("1 2 3,2 2 2r1", "R");
        doc.text("(i0),0 0 0r1", "R");
        doc.text("(i48),6 8 1r1", "R");
        doc.text("5,1 1 1r6", "[1 1 2] 5 6");

        doc.promise(4, "L if a length but the last differs.");
        doc.text("(2 2r1),3 2r1", "L");
        doc.text("(1 2r1),2 2r1", "L");
        doc.text("(2 2r1),1 2r1", "L");
        doc.text("(2 1r7),2 3r1", "[2 4] 7 1 1 1 7 1 1 1");
        doc.text("(2 2r1),1 2 3", "L");
        doc.text("1 2 3,2 2r1", "L");
        doc.text("(2 3r1),1 2 3", "L");
        doc.text("(1r1),2 1r1", "L");
        doc.text("(2 2 2r1),2 3 2r1", "L");
        doc.text("(2 2 2r1),3 2 2r1", "L");
        doc.text("(2 2 2r1),2 3r1", "L");
        doc.text("(2 2 2r1),3 2r1", "L");
        doc.text("(3 2r1),2 2 2r1", "L");
        doc.text("(0 2r1),2 0r1", "L");
        doc.text("(i0),2 0r1", "L");
        doc.text("(2 24r1),3 16r1", "L");
    }

    private void turn() {
        doc.promise(4, "t (one): the axes in reverse order: the element at (x, y, ..) is the one that was at (.., y, x).");
        doc.text("t5", "[] 5");
        doc.text("ti0", "[0]");
        doc.text("t1r5", "[1] 5");
        doc.text("t3 1 2", "[3] 3 1 2");
        doc.text("t2 3ri6", "[3 2] 0 3 1 4 2 5");
        doc.text("t1 3ri3", "[3 1] 0 1 2");
        doc.text("t3 1ri3", "[1 3] 0 1 2");
        doc.text("t2 3 2ri12", "[2 3 2] 0 6 2 8 4 10 1 7 3 9 5 11");
        doc.text("t2 1 3ri6", "[3 1 2] 0 3 1 4 2 5");
        doc.text("t2 0r1", "[0 2]");
        doc.text("t48 47 0r1", "[0 47 48]");
        doc.text("t0 47 48r1", "[48 47 0]");
        doc.text("t48 0 47r1", "[47 0 48]");
        doc.text("tt2 3 8ri48", Check.outcome(new RankCalc(), "2 3 8ri48"));
        doc.text("2p7pt2 3 8ri48", "[2] 23 47");

        doc.promise(4, "v (one): each row in reverse order.");
        doc.text("v5", "[] 5");
        doc.text("vi0", "[0]");
        doc.text("v1r5", "[1] 5");
        doc.text("v3 1 2", "[3] 2 1 3");
        doc.text("v2 3ri6", "[2 3] 2 1 0 5 4 3");
        doc.text("v3 1ri3", "[3 1] 0 1 2");
        doc.text("v2 2 2ri8", "[2 2 2] 1 0 3 2 5 4 7 6");
        doc.text("v2 0r1", "[2 0]");
        doc.text("v0 2r1", "[0 2]");
        doc.text("v48 48 0r1", "[48 48 0]");
        doc.text("vv2 24ri48", Check.outcome(new RankCalc(), "2 24ri48"));
        doc.text("vi48", Check.outcome(new RankCalc(), "47-i48"));
    }

    private void pick() {
        doc.promise(4, "p (two): with the left elements as indices along the right one's first axis:"
                + " the lengths are the left ones and then the right ones without the first;");
        doc.text("0p1r5", "[] 5");
        doc.text("0p1 2r5 6", "[2] 5 6");
        doc.text("0p1 1 2r5 6", "[1 2] 5 6");
        doc.text("(1r0)p1r5", "[1] 5");
        doc.text("(1 1r0)p1 2r5 6", "[1 1 2] 5 6");
        doc.text("(1 1 1r0)p1r5", "[1 1 1] 5");
        doc.text("r1 0 1p2 3r1", "[2] 3 3");
        doc.text("r(2 3r0)p2 4r1", "[3] 2 3 4");
        doc.text("(i0)pi0", "[0]");
        doc.text("(i0)p5 6", "[0]");
        doc.text("(i0)p0 48r1", "[0 48]");
        doc.text("(0 48r0)p0 48r1", "[0 48 48]");
        doc.text("1p2 0r1", "[0]");
        doc.text("(48r0)p2 0r1", "[48 0]");

        doc.promise(4, "for each index, in order, the part of the right one at it.");
        doc.text("0 2 1 2p5 6 7", "[4] 5 7 6 7");
        doc.text("1 0 1p2 2ri4", "[3 2] 2 3 0 1 2 3");
        doc.text("1 0p2 2 2ri8", "[2 2 2] 4 5 6 7 0 1 2 3");
        doc.text("(2 2r2 0 1 2)p5 6 7", "[2 2] 7 5 6 7");
        doc.text("(v i48)pi48", Check.outcome(new RankCalc(), "47-i48"));
        doc.text("47 0p48 1ri48", "[2 1] 47 0");

        doc.promise(4, "R if the right one is a scalar, or the ranks together are above 4;");
        doc.text("0p5", "R");
        doc.text("(i0)p5", "R");
        doc.text("9p5", "R");
        doc.text("(1 1 1r0)p5", "R");
        doc.text("(1 1 1r0)p1 1r5", "R");
        doc.text("(1 1r0)p1 1 1r5", "R");
        doc.text("(1r0)p1 1 1r5", "[1 1 1] 5");
        doc.text("(1 1r0)p1 1r5", "[1 1 1] 5");
        doc.text("(1 1 1r0)p1 1 1r5", "R");
        doc.text("(0 0r0)p0 0 0r5", "R");
        doc.text("(1 1 1r9)p1 1r5", "R");
        doc.text("(3 3 3r0)p2 2r5", "R");

        doc.promise(4, "S; X if an index is not 0 .. the first length less 1.");
        doc.text("2p5 6 7", "[] 7");
        doc.text("3p5 6 7", "X");
        doc.text("_1p5 6 7", "X");
        doc.text("0p5 6 7", "[] 5");
        doc.text("0 1 2 3p5 6 7", "X");
        doc.text("_1 0p5 6 7", "X");
        doc.text("2p2 3r1", "X");
        doc.text("2 _1p3 2r1", "X");
        doc.text("0pi0", "X");
        doc.text("0p0 2r1", "X");
        doc.text("2p2 0r1", "X");
        doc.text("_1p2 0r1", "X");
        doc.text("48pi48", "X");
        doc.ends("Ap5 6", "X");
        doc.ends("Bp5 6", "X");
        doc.ends("Ap2 0r5", "X");
        doc.text("(16r0)p1 3r1", "[16 3]" + " 1".repeat(48));
        doc.text("(17r0)p1 3r1", "S");
        doc.text("(17r9)p1 3r1", "S");
        doc.text("9p0 7 7r1", "S");
        doc.text("(48r9)p2 0r1", "X");
    }

    private void faultsTogether() {
        doc.promise(4, "(If several faults of one function come together and no order is told,"
                + " R counts before L, then S for lengths and their number, then those of elements.)");
        // R and L
        doc.text("1 2 3+2 2r1", "R");
        doc.text("(2 2 2r1)+.*3 2 2r1", "R");
        doc.text("1 2 3,2 2 2r1", "R");
        // R and S
        doc.text("(4 4 2r1)+.*2 4 4r1", "R");
        doc.text("(4 4r1)+@4 4r1", "R");
        doc.text("(i48),6 8 1r1", "R");
        doc.text("(3 3 3r0)p2 2r1", "R");
        doc.text("i1 1r99", "R");
        // R and those of elements
        doc.text("1 2%2 2r0", "R");
        doc.text("5+.%0", "R");
        doc.text("(2 2r1)%@2 2r0", "R");
        doc.text("9p5", "R");
        // L and S
        doc.text("(7 1r1)+.*2 7r1", "L");
        doc.text("(2 24r1),3 16r1", "L");
        doc.text("(0 48r1),1 48r1", "L");
        doc.text("i99 99", "L");
        // L and those of elements
        doc.text("1 2%0 0 0", "L");
        doc.text("1 2+.%0 0 0", "L");
        doc.ends("(A,A)+A,A,A", "L");
        // S for lengths and their number, and those of elements
        doc.text("-/7 7 0r1", "S");
        doc.text("(7 1r1)+.%1 7r0", "S");
        doc.text("(7 0r1)-.*0 7r1", "S");
        doc.text("(7r1)%@7r0", "S");
        doc.text("(25r9)p2 2r1", "S");
        doc.text("0p0 48 48r1", "S");
    }
}
