/** Promises 13 to 24: ladders. */
public final class LaddersTest {
    private static final Due due = new Due("LaddersTest");
    private static final int[] NOT_TOLD = {0, -1, 10000, Integer.MIN_VALUE, Integer.MAX_VALUE};
    private static final int[] FAR = {Integer.MIN_VALUE, -2, 2, 6, Integer.MAX_VALUE};

    public static void main(String[] args) {
        look();
        multiply();
        multiplyRefused();
        close();
        scale();
        band();
        dull();
        turn();
        fit();
        forget();
        due.end();
    }

    private static void look() {
        LadderMaker x = new LadderMaker();
        Due.ladder(x, "l1,c2/4,r3,L4,C5,R6/7;r8/6");
        Due.ladder(x, "l1;o");
        due.is(13, "parts(0)", x.parts(0), 6);
        due.is(13, "parts(1)", x.parts(1), 1);
        due.is(14, "end(0)", x.end(0), 2);
        due.is(14, "end(1)", x.end(1), 1);
        for (int k = 0; k < 6; k++) {
            due.is(15, "sort of part " + k, x.part(0, k, 0), k % 3);
            due.is(15, "side of part " + k, x.part(0, k, 1), k / 3);
        }
        due.is(15, "part 6", x.part(0, 6, 0), Due.BAD);
        due.is(15, "part -1", x.part(0, -1, 0), Due.BAD);
        due.is(15, "part 1 of a ladder of 1", x.part(1, 1, 0), Due.BAD);
        due.is(15, "what 2", x.part(0, 0, 2), Due.BAD);
        due.is(15, "what -1", x.part(0, 0, -1), Due.BAD);
        due.is(16, "value 1 above", x.value(0, 1, 0), 1);
        due.is(16, "value 1 below", x.value(0, 1, 1), 2);
        due.is(16, "value 5 above", x.value(0, 5, 0), 6);
        due.is(16, "value 5 below", x.value(0, 5, 1), 7);
        due.is(16, "loss above", x.value(0, -1, 0), 4);
        due.is(16, "loss below", x.value(0, -1, 1), 3);
        due.is(16, "no loss", x.value(1, -1, 0), Due.NO);
        due.is(16, "value 6", x.value(0, 6, 0), Due.NO);
        due.is(16, "value -2", x.value(0, -2, 0), Due.NO);
        due.is(16, "part 2", x.value(0, 0, 2), Due.NO);
        due.is(16, "part -1", x.value(0, 0, -1), Due.NO);
        due.is(16, "part 2 of the loss", x.value(0, -1, 2), Due.NO);
        for (int wrong : FAR) {
            due.is(13, "parts(" + wrong + ")", x.parts(wrong), Due.BAD);
            due.is(14, "end(" + wrong + ")", x.end(wrong), Due.BAD);
            due.is(15, "part of ladder " + wrong, x.part(wrong, 0, 0), Due.BAD);
            due.is(16, "value of ladder " + wrong, x.value(wrong, 0, 0), Due.NO);
        }
    }

    private static void outIs(String ladder, String want) {
        LadderMaker x = new LadderMaker();
        Due.ladder(x, ladder);
        due.is(17, "multiply of " + ladder, x.multiply(0), 0);
        due.isText(17, ladder, Due.ratioText(x, 0), want);
    }

    private static void multiply() {
        outIs("l2/3;r5", "1:2/3 0:5/1 | 0:1/1");
        outIs("c2/3;r5", "1:10/3 0:1/1 | 1:2/3");
        outIs("r2/3;r5", "0:17/3 | 0:1/1");
        outIs("L2/3;r5", "1:10/3 | 1:2/3 0:5/1");
        outIs("C2/3;r5", "0:5/1 | 1:10/3 0:1/1");
        outIs("R2/3;r5", "0:10/3 | 0:17/3");
        outIs("l2;s", "1:2/1 | 0:1/1");
        outIs("C2;o", "0:1/1 | 1:2/1");
        outIs("c2;s", "0:1/1 | 1:2/1");
        outIs("L2;o", "1:2/1 | 0:1/1");
        outIs("R3;o", "0:3/1 | 0:1/1");
        // by turns from the last: o: 1, 0; c3: X 3s, Y 0; R4: Y 3s, X 12s; l5: X 12s + 15s2
        outIs("l5,R4,c3;o", "2:15/1 1:12/1 | 1:3/1");
        // s: 0, 1; l1: s, 1; L2: Y 2s+s, X 2s2; c3: X 6s3+3s, Y 9s2
        outIs("c3,L2,l1;s", "3:6/1 1:3/1 | 2:9/1");
        LadderMaker x = new LadderMaker();
        Due.ladder(x, "c1,L1,c1,L1,c1,L1,c1,L1,c1,L1,c1,L1;r1");
        due.is(17, "12 parts that all raise", x.multiply(0), 0);
        due.is(17, "degree", x.degree(0, 0), 12);
        due.is(17, "degree", x.degree(0, 2), 12);
        due.is(17, "the ladder stays", x.parts(0), 12);
    }

    private static void multiplyRefused() {
        LadderMaker x = new LadderMaker();
        due.is(17, "ladder 0 of none", x.multiply(0), Due.BAD);
        due.is(17, "ladder -1", x.multiply(-1), Due.BAD);
        Due.ladder(x, "l1;o");
        due.is(17, "below is 0 all over", x.multiply(0), Due.NOT);
        Due.ladder(x, "C1;s");
        due.is(17, "above is 0 all over", x.multiply(1), Due.NOT);
        Due.ladder(x, "l9999,C9999,l9999;s");
        due.is(17, "9999 three times", x.multiply(2), Due.WIDE);
        due.is(17, "count(1)", x.count(1), 0);
        // below is 0 all over at last, but it is wide ahead of that
        Due.ladder(x, "c9999,c9999,c9999;o");
        due.is(17, "WIDE ahead of NOT", x.multiply(3), Due.WIDE);
        Due.ladder(x, "l1/9999,C1/9999,l1/9999;s");
        due.is(17, "wide below the line", x.multiply(4), Due.WIDE);
        // what is wide last of all: v times Y of the first part, X being added to already
        LadderMaker y = new LadderMaker();
        Due.ladder(y, "c9999,c9999,C9999;o");
        due.is(17, "wide in Y alone", y.multiply(0), Due.WIDE);
        Due.ladder(y, "R9999,R9999,r1;r9999");
        due.is(17, "wide in X alone", y.multiply(1), Due.WIDE);
        x.close(0, 0, 0, 0);
        for (int k = 0; k < 6; k++) {
            due.is(17, "multiply", x.multiply(0), k);
        }
        due.is(17, "a seventh", x.multiply(0), Due.FULL);
        due.is(17, "FULL ahead of WIDE", x.multiply(2), Due.FULL);
        due.is(17, "BAD ahead of FULL", x.multiply(5), Due.BAD);
    }

    private static void close() {
        LadderMaker x = new LadderMaker();
        Due.ladder(x, "l1,C2;s");
        due.is(18, "lossy", x.close(0, 2, 6, 4), 0);
        due.isText(18, "it", Due.ladderText(x, 0), "l1/1,C2/1;r3/2");
        due.is(18, "lossy again", x.close(0, 2, 9999, 1), 2);
        due.isText(18, "it", Due.ladderText(x, 0), "l1/1,C2/1;r9999/1");
        for (int wrong : NOT_TOLD) {
            due.is(18, "num " + wrong, x.close(0, 2, wrong, 1), Due.BAD);
            due.is(18, "den " + wrong, x.close(0, 2, 1, wrong), Due.BAD);
            due.is(18, "open, not looked at", x.close(0, 1, wrong, wrong), 2);
            due.is(18, "short, not looked at", x.close(0, 0, wrong, wrong), 1);
            due.is(18, "value(0, -1, 0)", x.value(0, -1, 0), Due.NO);
            due.is(18, "lossy", x.close(0, 2, 1, 1), 0);
        }
        due.is(18, "end 3", x.close(0, 3, 1, 1), Due.BAD);
        due.is(18, "end -1", x.close(0, -1, 1, 1), Due.BAD);
        due.is(18, "ladder 1", x.close(1, 0, 1, 1), Due.BAD);
        due.is(18, "ladder -1", x.close(-1, 0, 1, 1), Due.BAD);
        due.isText(18, "it", Due.ladderText(x, 0), "l1/1,C2/1;r1/1");
    }

    private static void scale() {
        LadderMaker x = new LadderMaker();
        Due.ladder(x, "l1,c2,r3,L4,C5,R6;r7");
        due.is(19, "w 6/4, r 2/3", x.scale(0, 6, 4, 2, 3), 1);
        due.isText(19, "it", Due.ladderText(x, 1), "l4/9,c2/1,r2/1,L16/9,C5/1,R4/1;r14/3");
        due.isText(19, "the old one", Due.ladderText(x, 0), "l1/1,c2/1,r3/1,L4/1,C5/1,R6/1;r7/1");
        Due.ladder(x, "l1;o");
        due.is(19, "open", x.scale(2, 1, 1, 5, 1), 3);
        due.isText(19, "it", Due.ladderText(x, 3), "l5/1;o");
        for (int wrong : NOT_TOLD) {
            due.is(19, "wNum " + wrong, x.scale(0, wrong, 1, 1, 1), Due.BAD);
            due.is(19, "wDen " + wrong, x.scale(0, 1, wrong, 1, 1), Due.BAD);
            due.is(19, "rNum " + wrong, x.scale(0, 1, 1, wrong, 1), Due.BAD);
            due.is(19, "rDen " + wrong, x.scale(0, 1, 1, 1, wrong), Due.BAD);
        }
        due.is(19, "ladder 4", x.scale(4, 1, 1, 1, 1), Due.BAD);
        due.is(19, "ladder -1", x.scale(-1, 1, 1, 1, 1), Due.BAD);
        Due.ladder(x, "l9999;s");
        // 9999 times 9999 times 9999
        due.is(19, "wide", x.scale(4, 1, 9999, 9999, 1), Due.WIDE);
        due.is(19, "not wide", x.scale(4, 1, 1, 9999, 1), 5);
        due.is(19, "it", x.value(5, 0, 0), 99980001);
        due.is(19, "a seventh", x.scale(0, 1, 1, 1, 1), Due.FULL);
        due.is(19, "FULL ahead of WIDE", x.scale(4, 1, 9999, 9999, 1), Due.FULL);
        due.is(19, "BAD ahead of FULL", x.scale(4, 0, 9999, 9999, 1), Due.BAD);
        LadderMaker y = new LadderMaker();
        Due.ladder(y, "r1;r9999");
        y.scale(0, 1, 1, 9999, 1);
        due.is(19, "wide in the loss alone", y.scale(1, 1, 1, 9999, 1), Due.WIDE);
        due.is(19, "count(2)", y.count(2), 2);
        // wide on the way: (99980001 times 9999) over 9999
        Due.ladder(y, "l9999;s");
        y.scale(2, 1, 1, 9999, 1);
        due.is(19, "wide on the way", y.scale(3, 9999, 1, 9999, 1), Due.WIDE);
    }

    private static void band() {
        LadderMaker x = new LadderMaker();
        Due.ladder(x, "l3,r2,C2/3,R5;r4");
        due.is(20, "m 10/2, b 1/2", x.band(0, 10, 2, 1, 2), 1);
        due.isText(20, "it", Due.ladderText(x, 1), "l6/1,c1/30,r2/1,C4/3,L3/20,R5/1;r4/1");
        due.isText(20, "the old one", Due.ladderText(x, 0), "l3/1,r2/1,C2/3,R5/1;r4/1");
        for (int wrong : NOT_TOLD) {
            due.is(20, "mNum " + wrong, x.band(0, wrong, 1, 1, 1), Due.BAD);
            due.is(20, "mDen " + wrong, x.band(0, 1, wrong, 1, 1), Due.BAD);
            due.is(20, "bNum " + wrong, x.band(0, 1, 1, wrong, 1), Due.BAD);
            due.is(20, "bDen " + wrong, x.band(0, 1, 1, 1, wrong), Due.BAD);
        }
        due.is(20, "ladder 2", x.band(2, 1, 1, 1, 1), Due.BAD);
        due.is(20, "ladder -1", x.band(-1, 1, 1, 1, 1), Due.BAD);
        due.is(20, "it has a series condenser", x.band(1, 1, 1, 1, 1), Due.STATE);
        Due.ladder(x, "L1,l1;s");
        due.is(20, "a shunt coil is the first", x.band(2, 1, 1, 1, 1), Due.STATE);
        x.turn(2);
        due.is(20, "a shunt coil is the last", x.band(3, 1, 1, 1, 1), Due.STATE);
        x.forget(1);
        Due.ladder(x, "l1;s");
        Due.ladder(x, "l1;s");
        Due.ladder(x, "l1,l1,l1,l1,l1,l1,R1,l1,L1;s");
        due.is(20, "STATE ahead of -300", x.band(2, 1, 1, 1, 1), Due.STATE);
        Due.ladder(x, "l1,l1,l1,l1,l1,l1,R9999;s");
        due.is(20, "13 parts", x.band(3, 1, 1, 1, 1), -300);
        due.is(20, "-300 ahead of WIDE", x.band(3, 9999, 1, 1, 9999), -300);
        x.forget(1);
        Due.ladder(x, "l1,C1,l1,C1,l1,C1;o");
        due.is(20, "12 parts", x.band(0, 1, 1, 1, 1), 1);
        due.is(20, "parts(1)", x.parts(1), 12);
        Due.ladder(x, "l9999;o");
        // (1/9999 over 9999) over 9999
        due.is(20, "wide", x.band(2, 9999, 1, 1, 9999), Due.WIDE);
        due.is(20, "count(2)", x.count(2), 3);
        Due.ladder(x, "r1,R1;o");
        due.is(20, "resistors alone", x.band(3, 9999, 1, 1, 9999), 4);
        due.isText(20, "it", Due.ladderText(x, 4), "r1/1,R1/1;o");
        x.forget(1);
        for (int k = 0; k < 4; k++) {
            Due.ladder(x, "r1,r1,r1,r1,r1,r1,r1,r1,r1,r1,r1,R2;o");
        }
        due.is(20, "12 resistors", x.band(3, 9999, 1, 1, 9999), 4);
        due.is(20, "parts(4)", x.parts(4), 12);
        Due.ladder(x, "c1;o");
        due.is(20, "FULL ahead of STATE", x.band(5, 1, 1, 1, 1), Due.FULL);
        due.is(20, "BAD ahead of FULL", x.band(5, 1, 1, 1, 0), Due.BAD);
        // wide on the way: b over v is 9999 times 9999 below GREAT, v over b fits, then over 1/11
        x.forget(1);
        Due.ladder(x, "C1/9999;s");
        due.is(20, "not wide", x.band(0, 1, 10, 9999, 1), 1);
        due.isText(20, "it", Due.ladderText(x, 1), "C1/99980001,L999800010/1;s");
        due.is(20, "wide", x.band(0, 1, 11, 9999, 1), Due.WIDE);
    }

    private static void dull() {
        LadderMaker x = new LadderMaker();
        Due.ladder(x, "l3,r2,C2/3,R5;r4");
        due.is(21, "d 4/6", x.dull(0, 4, 6), 1);
        due.isText(21, "it", Due.ladderText(x, 1), "l3/1,r2/1,r2/1,C2/3,R9/4,R5/1;r4/1");
        due.isText(21, "the old one", Due.ladderText(x, 0), "l3/1,r2/1,C2/3,R5/1;r4/1");
        for (int wrong : NOT_TOLD) {
            due.is(21, "num " + wrong, x.dull(0, wrong, 1), Due.BAD);
            due.is(21, "den " + wrong, x.dull(0, 1, wrong), Due.BAD);
        }
        due.is(21, "ladder 2", x.dull(2, 1, 1), Due.BAD);
        due.is(21, "ladder -1", x.dull(-1, 1, 1), Due.BAD);
        Due.ladder(x, "c1,l1;s");
        due.is(21, "a series condenser", x.dull(2, 1, 1), Due.STATE);
        Due.ladder(x, "C1,C1,C1,C1,C1,C1,C1,L1;s");
        due.is(21, "a shunt coil, STATE ahead of -300", x.dull(3, 1, 1), Due.STATE);
        Due.ladder(x, "l1,C1,l1,C1,l1,C1,r1;s");
        due.is(21, "13 parts", x.dull(4, 1, 1), -300);
        x.forget(1);
        Due.ladder(x, "l1,C1,l1,C1,l1,C1;s");
        due.is(21, "12 parts", x.dull(0, 1, 1), 1);
        due.is(21, "parts(1)", x.parts(1), 12);
        Due.ladder(x, "C9999;s");
        x.scale(2, 1, 1, 1, 9999);
        due.is(21, "wide", x.dull(3, 9999, 1), Due.WIDE);
        due.is(21, "count(2)", x.count(2), 4);
        x.turn(0);
        Due.ladder(x, "c1;s");
        due.is(21, "FULL ahead of STATE", x.dull(5, 1, 1), Due.FULL);
        due.is(21, "BAD ahead of FULL", x.dull(6, 1, 1), Due.BAD);
        // what is dulled comes to what is shifted
        LadderMaker y = new LadderMaker();
        Due.ladder(y, "l2,C3,l1/2;r1");
        y.multiply(0);
        y.shift(0, 2, 3);
        y.dull(0, 2, 3);
        y.multiply(1);
        due.is(21, "dulled and shifted alike", y.same(1, 2), 1);
    }

    private static void turn() {
        LadderMaker x = new LadderMaker();
        Due.ladder(x, "l3,r2/9,C2/3;r4");
        due.is(22, "turn(0)", x.turn(0), 1);
        due.isText(22, "it", Due.ladderText(x, 1), "C2/3,r2/9,l3/1;r4/1");
        due.isText(22, "the old one", Due.ladderText(x, 0), "l3/1,r2/9,C2/3;r4/1");
        due.is(22, "turn(2)", x.turn(2), Due.BAD);
        due.is(22, "turn(-1)", x.turn(-1), Due.BAD);
        for (int k = 2; k < 6; k++) {
            due.is(22, "turn(1)", x.turn(1), k);
        }
        due.is(22, "a seventh", x.turn(0), Due.FULL);
        due.is(22, "BAD ahead of FULL", x.turn(6), Due.BAD);
    }

    private static void fit() {
        LadderMaker x = new LadderMaker();
        Due.ladder(x, "l3,C2/3,L5,l1/2;r4");
        due.is(23, "no bin at all", x.fit(0), Due.NOT);
        x.stock(0, 4, 1, 0, 1);
        x.stock(0, 2, 1, 5, 1);
        due.is(23, "no bin of one sort", x.fit(0), Due.NOT);
        due.is(23, "count(2)", x.count(2), 1);
        x.stock(1, 9, 4, 5, 1);
        due.is(23, "fit(0)", x.fit(0), 1);
        // 3 is as near to 2 as to 4
        due.isText(23, "it", Due.ladderText(x, 1), "l2/1,C9/4,L4/1,l2/1;r4/1");
        due.isText(23, "the old one", Due.ladderText(x, 0), "l3/1,C2/3,L5/1,l1/2;r4/1");
        due.is(23, "the bins stay", x.bin(0, 1, 0), 0);
        due.is(23, "fit(2)", x.fit(2), Due.BAD);
        due.is(23, "fit(-1)", x.fit(-1), Due.BAD);
        // values far beyond 9999, exactly: 99980001/2 .. all bins are lesser
        Due.ladder(x, "l9999;s");
        x.scale(2, 1, 1, 9999, 2);
        x.fit(3);
        due.isText(23, "it", Due.ladderText(x, 4), "l4/1;s");
        Due.ladder(x, "R1;s");
        due.is(23, "FULL ahead of NOT", x.fit(5), Due.FULL);
        due.is(23, "BAD ahead of FULL", x.fit(6), Due.BAD);
    }

    private static void forget() {
        LadderMaker x = new LadderMaker();
        due.is(24, "forget(0) of none", x.forget(0), 0);
        due.is(24, "forget(1) of none", x.forget(1), 0);
        Due.ladder(x, "l3;s");
        Due.ladder(x, "l4;s");
        x.multiply(0);
        x.multiply(1);
        x.multiply(1);
        due.is(24, "what 2", x.forget(2), Due.BAD);
        due.is(24, "what -1", x.forget(-1), Due.BAD);
        due.is(24, "forget(0)", x.forget(0), 3);
        due.is(24, "count(1)", x.count(1), 0);
        due.is(24, "count(2)", x.count(2), 2);
        due.is(24, "degree(0, 0)", x.degree(0, 0), Due.BAD);
        due.is(24, "the next ratio", x.multiply(1), 0);
        due.is(24, "forget(1)", x.forget(1), 2);
        due.is(24, "count(2)", x.count(2), 0);
        due.is(24, "count(1)", x.count(1), 1);
        due.is(24, "parts(0)", x.parts(0), Due.BAD);
        due.is(24, "the next ladder", Due.ladder(x, "R4;o"), 0);
        due.isText(24, "it", Due.ladderText(x, 0), "R4/1;o");
    }
}
