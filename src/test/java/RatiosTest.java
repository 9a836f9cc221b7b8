/** Promises 6 to 12: ratios. */
public final class RatiosTest {
    private static final Due due = new Due("RatiosTest");
    private static final int[] WRONG = {-1, 2, Integer.MIN_VALUE, Integer.MAX_VALUE};
    private static final int[] NOT_TOLD = {0, -1, 10000, Integer.MIN_VALUE, Integer.MAX_VALUE};

    public static void main(String[] args) {
        degree();
        coefficient();
        same();
        sameWide();
        divideFromHighest();
        divideFromLowest();
        divideRefused();
        divideWide();
        invert();
        stretch();
        shift();
        due.end();
    }

    private static void degree() {
        LadderMaker x = new LadderMaker();
        Due.ratio(x, "3s7-2s2/s9+s4+1");
        due.is(6, "high of above", x.degree(0, 0), 7);
        due.is(6, "low of above", x.degree(0, 1), 2);
        due.is(6, "high of below", x.degree(0, 2), 9);
        due.is(6, "low of below", x.degree(0, 3), 0);
        due.is(6, "what 4", x.degree(0, 4), Due.BAD);
        due.is(6, "what -1", x.degree(0, -1), Due.BAD);
        due.is(6, "ratio 1", x.degree(1, 0), Due.BAD);
        due.is(6, "ratio -1", x.degree(-1, 0), Due.BAD);
        Due.ratio(x, "s3+2s-s3/1+s-1");
        due.is(6, "a term that went", x.degree(1, 0), 1);
        due.is(6, "a term that went", x.degree(1, 3), 1);
        Due.ladder(x, "l1,l1,l1,l1,l1,l1,l1,l1,l1,l1,l1,c1;r1");
        x.multiply(0);
        due.is(6, "high of one multiplied out", x.degree(2, 0), 2);
        Due.ladder(x, "l1,C1,l1,C1,l1,C1,l1,C1,l1,C1,l1,C1;r1");
        x.multiply(1);
        due.is(6, "power 12", x.degree(3, 0), 12);
        due.is(6, "power 11", x.degree(3, 2), 11);
        Due.ladder(x, "L1,L1,L1,L1,L1,L1,L1,L1,L1,L1,L1,L1;r1");
        x.multiply(2);
        due.isText(6, "it", Due.ratioText(x, 4), "12:1/1 | 12:1/1 11:12/1");
        due.is(6, "low of 12", x.degree(4, 1), 12);
        due.is(6, "low of 11", x.degree(4, 3), 11);
    }

    private static void coefficient() {
        LadderMaker x = new LadderMaker();
        Due.ratio(x, "3s7-2s2/s9+s4+1");
        due.is(7, "3s7", x.coefficient(0, 0, 7, 0), 3);
        due.is(7, "-2s2", x.coefficient(0, 0, 2, 0), -2);
        due.is(7, "-2s2 below the line", x.coefficient(0, 0, 2, 1), 1);
        due.is(7, "s9", x.coefficient(0, 1, 9, 0), 1);
        due.is(7, "one that is 0", x.coefficient(0, 1, 12, 0), 0);
        due.is(7, "one that is 0, below", x.coefficient(0, 1, 12, 1), 1);
        due.is(7, "power 13", x.coefficient(0, 1, 13, 0), Due.NO);
        due.is(7, "power -1", x.coefficient(0, 1, -1, 0), Due.NO);
        for (int wrong : WRONG) {
            due.is(7, "side " + wrong, x.coefficient(0, wrong, 0, 0), Due.NO);
            due.is(7, "part " + wrong, x.coefficient(0, 0, 0, wrong), Due.NO);
            due.is(7, "ratio " + wrong, x.coefficient(wrong, 0, 0, 0), Due.NO);
        }
        x.stretch(0, 2, 1, 5, 6);
        due.is(7, "a fraction above", x.coefficient(1, 0, 2, 0), -5);
        due.is(7, "a fraction below", x.coefficient(1, 0, 2, 1), 12);
    }

    private static void same() {
        LadderMaker x = new LadderMaker();
        Due.ratio(x, "s2+1/s");
        Due.ratio(x, "2s3+2s/2s2");
        Due.ratio(x, "s2-1/s");
        Due.ratio(x, "-s2-1/-s");
        due.is(8, "one and itself", x.same(0, 0), 1);
        due.is(8, "with a common factor", x.same(0, 1), 1);
        due.is(8, "the other way round", x.same(1, 0), 1);
        due.is(8, "another", x.same(0, 2), 0);
        due.is(8, "both signs turned", x.same(0, 3), 1);
        due.is(8, "ratio 4", x.same(4, 0), Due.BAD);
        due.is(8, "other 4", x.same(0, 4), Due.BAD);
        due.is(8, "ratio -1", x.same(-1, 0), Due.BAD);
        due.is(8, "other -1", x.same(0, -1), Due.BAD);
        Due.ratio(x, "s9+1/s");
        Due.ratio(x, "s9+2/s");
        due.is(8, "they differ at a low power", x.same(4, 5), 0);
        // products up to power 24: (s12..)/(s11..) by ladders of 12 parts
        LadderMaker y = new LadderMaker();
        Due.ladder(y, "l1,C1,l1,C1,l1,C1,l1,C1,l1,C1,l1,C1;r1");
        y.multiply(0);
        y.multiply(0);
        due.is(8, "great powers", y.same(0, 1), 1);
        Due.ladder(y, "l2,C1,l1,C1,l1,C1,l1,C1,l1,C1,l1,C1;r1");
        y.multiply(1);
        due.is(8, "great powers that differ", y.same(0, 2), 0);
        // what differs at one great power alone: 18, then 22
        LadderMaker z = new LadderMaker();
        Due.ratio(z, "s9+s/s9");
        Due.ratio(z, "2s9+s/s9");
        due.is(8, "they differ at power 18", z.same(0, 1), 0);
        Due.ladder(z, "c1,c1,c1,c1,c1,c1,c1,c1,c1,c1,c1,r1;s");
        Due.ladder(z, "c1,c1,c1,c1,c1,c1,c1,c1,c1,c1,c1,r2;s");
        z.multiply(0);
        z.multiply(1);
        due.isText(8, "it", Due.ratioText(z, 3), "11:2/1 10:11/1 | 11:1/1");
        due.is(8, "they differ at power 22", z.same(2, 3), 0);
        Due.ladder(z, "L1,L1,L1,L1,L1,L1,L1,L1,L1,L1,L1,L1;r1");
        z.multiply(2);
        z.stretch(4, 1, 1, 2, 1);
        due.is(8, "power 12 alone is above", z.same(4, 5), 0);
        due.is(8, "power 12 alone is above", z.same(5, 5), 1);
        // s12 / s12+12s11 and 2s12 / s12+24s11
        z.close(2, 2, 2, 1);
        z.forget(0);
        z.multiply(2);
        z.close(2, 2, 1, 1);
        z.multiply(2);
        due.isText(8, "it", Due.ratioText(z, 0), "12:2/1 | 12:1/1 11:24/1");
        due.isText(8, "it", Due.ratioText(z, 1), "12:1/1 | 12:1/1 11:12/1");
        due.is(8, "they differ at power 24 alone", z.same(0, 1), 0);
    }

    private static void sameWide() {
        LadderMaker x = new LadderMaker();
        Due.ratio(x, "9999s/1");
        Due.ratio(x, "9999s+1/s");
        x.stretch(0, 1, 9999, 9, 1);
        due.is(8, "899820009 fits", x.coefficient(2, 0, 1, 0), 899820009);
        // 899820009 s / 1 and 9999s+1 / s: power 0 has 0 and 1: they differ before it is wide
        due.is(8, "they differ ahead of what is wide", x.same(2, 1), 0);
        Due.ratio(x, "9999s/9999");
        // power 1: 899820009 times 9999
        due.is(8, "a product that is wide", x.same(2, 3), Due.WIDE);
        due.is(8, "a product that is wide, worked behind", x.same(3, 2), Due.WIDE);
        // a sum that is wide though its products fit: 899820009 and 899820009
        LadderMaker y = new LadderMaker();
        Due.ratio(y, "9999s+9999/s+1");
        y.stretch(0, 1, 1, 9999, 1);
        y.stretch(1, 1, 1, 9, 1);
        due.is(8, "both coefficients", y.coefficient(2, 0, 0, 0), 899820009);
        due.is(8, "they differ ahead of a sum that is wide", y.same(2, 0), 0);
        due.is(8, "a sum that is wide", y.same(2, 2), Due.WIDE);
    }

    private static void divideFromHighest() {
        LadderMaker x = new LadderMaker();
        Due.ratio(x, "2s3+2s/2s2+1");
        due.is(9, "divide(0, 0)", x.divide(0, 0), 0);
        due.isText(9, "it", Due.ladderText(x, 0), "l1/1,C2/1,l1/1;s");
        Due.ratio(x, "2s2+1/2s3+2s");
        due.is(9, "divide(1, 0)", x.divide(1, 0), 1);
        due.isText(9, "shunt first", Due.ladderText(x, 1), "C1/1,l2/1,C1/1;o");
        // (2s+3)/(s+1): r2, rest 1; (s+1)/1: C1, then rest 1 over 1: R1, open
        Due.ratio(x, "2s+3/s+1");
        due.is(9, "with resistors", x.divide(2, 0), 2);
        due.isText(9, "it", Due.ladderText(x, 2), "r2/1,C1/1,R1/1;o");
        // (3s+4)/(1): l3, r4, short
        Due.ratio(x, "3s+4/1");
        due.is(9, "a resistor on the same side", x.divide(3, 0), 3);
        due.isText(9, "it", Due.ladderText(x, 3), "l3/1,r4/1;s");
        // 1/(3s+4): C3, R1/4, open
        Due.ratio(x, "1/3s+4");
        due.is(9, "a shunt resistor is 1 over q", x.divide(4, 0), 4);
        due.isText(9, "it", Due.ladderText(x, 4), "C3/1,R1/4;o");
        // 3/(2s2+s)... above is lower by 2
        Due.ratio(x, "3/2s2+s");
        due.is(9, "a step of 2 with the places changed", x.divide(5, 0), -200);
        due.is(9, "count(2)", x.count(2), 5);
        due.is(9, "ratio 6", x.divide(6, 0), Due.BAD);
        due.is(9, "ratio -1", x.divide(-1, 0), Due.BAD);
        due.is(9, "form 2", x.divide(0, 2), Due.BAD);
        due.is(9, "form -1", x.divide(0, -1), Due.BAD);
        due.is(9, "the sixth ladder", x.divide(0, 0), 5);
        due.is(9, "a seventh", x.divide(0, 0), Due.FULL);
        due.is(9, "FULL ahead of -200", x.divide(5, 0), Due.FULL);
        due.is(9, "BAD ahead of FULL", x.divide(0, 2), Due.BAD);
    }

    private static void divideFromLowest() {
        LadderMaker x = new LadderMaker();
        // (2s3+2s)/(2s2+1): 1 is below the 2s: places change, shunt; 1 over 2s: L2; rest 2s2+1-(1+s2)=s2
        // then A=s2, B=2s3+2s: places change, series: 2s over s2: c1/2; rest 2s3; then shunt: s2 over 2s3: L2
        Due.ratio(x, "2s3+2s/2s2+1");
        due.is(9, "divide(0, 1)", x.divide(0, 1), 0);
        due.isText(9, "it", Due.ladderText(x, 0), "L2/1,c1/2,L2/1;o");
        // (s2+1)/s: h 1, q 1: c1; rest s2; places change: s over s2: h 1, q 1: L1, open
        Due.ratio(x, "s2+1/s");
        due.is(9, "series first", x.divide(1, 1), 1);
        due.isText(9, "it", Due.ladderText(x, 1), "c1/1,L1/1;o");
        // (3s+4)/2: h 0: r2; rest 3s; places change: 2 over 3s: h 1, q 2/3: shunt L3/2, open
        Due.ratio(x, "3s+4/2");
        due.is(9, "a resistor", x.divide(2, 1), 2);
        due.isText(9, "it", Due.ladderText(x, 2), "r2/1,L3/2;o");
        // 2/(3s): places stay: 2 over 3s: h 1, q 2/3: c3/2, short
        Due.ratio(x, "2/3s");
        due.is(9, "short", x.divide(3, 1), 3);
        due.isText(9, "it", Due.ladderText(x, 3), "c3/2;s");
        // s/(2+3s): 2 is lower: shunt, h 1, q 2: L1/2; rest 3s; h 0: shunt R, q 3: R1/3, open
        Due.ratio(x, "s/2+3s");
        due.is(9, "a shunt resistor", x.divide(4, 1), 4);
        due.isText(9, "it", Due.ladderText(x, 4), "L1/2,R1/3;o");
        Due.ratio(x, "s2/1");
        due.is(9, "a step of 2", x.divide(5, 1), -200);
    }

    private static void divideRefused() {
        LadderMaker x = new LadderMaker();
        Due.ratio(x, "s2-1/s");
        due.is(9, "q below 0 behind 1 part", x.divide(0, 0), -101);
        due.is(9, "q below 0 at once", x.divide(0, 1), -100);
        // s4+s3+1 / s3+s2... l1, rest 1; then (s3+s2)/1: 3 steps
        Due.ratio(x, "s4+s3+1/s3+s2");
        due.is(9, "a step of 3 behind 1 part", x.divide(1, 0), -201);
        // a ladder of 12 parts stands, one more division does not
        Due.ladder(x, "l1,C1,l1,C1,l1,C1,l1,C1,l1,C1,l1,C1;o");
        due.is(9, "multiply", x.multiply(0), 2);
        due.is(9, "12 parts", x.divide(2, 0), 1);
        due.isText(9, "it", Due.ladderText(x, 1), Due.ladderText(x, 0));
        Due.ladder(x, "l1,C1,l1,C1,l1,C1,l1,C1,l1,C1,l1,C1;r1");
        due.is(9, "multiply", x.multiply(2), 3);
        due.is(9, "a 13th part", x.divide(3, 0), -300);
        due.is(9, "count(2)", x.count(2), 3);
        Due.ratio(x, "5/5");
        due.is(9, "one resistor", x.divide(4, 0), 3);
        due.isText(9, "it", Due.ladderText(x, 3), "r1/1;s");
        // both below 0: q is above 0
        Due.ratio(x, "-s/-2");
        due.is(9, "both below 0", x.divide(5, 0), 4);
        due.isText(9, "it", Due.ladderText(x, 4), "l1/2;s");
        // l1,r1,C1,R1 three times, and behind them s2: the step is looked at ahead of the 13th part
        LadderMaker y = new LadderMaker();
        Due.ratio(y, "s8+6s7+20s6+41s5+56s4+52s3+35s2+20s+8/s7+5s6+14s5+23s4+24s3+17s2+10s+5");
        due.is(9, "a step of 2 behind 12 parts", y.divide(0, 0), -212);
        // the same with 1 over s for s
        Due.ratio(y, "8s8+20s7+35s6+52s5+56s4+41s3+20s2+6s+1/5s8+10s7+17s6+24s5+23s4+14s3+5s2+s");
        due.is(9, "a step of 2 behind 12 parts by form 1", y.divide(1, 1), -212);
    }

    private static void divideWide() {
        LadderMaker x = new LadderMaker();
        Due.ratio(x, "s2+s/9999s");
        x.stretch(0, 1, 9999, 1, 9999);
        due.isText(9, "it", Due.ratioText(x, 1), "2:9999/1 1:1/1 | 1:99980001/1");
        due.is(9, "great numbers that fit", x.divide(1, 0), 0);
        due.isText(9, "it", Due.ladderText(x, 0), "l1/9999,r1/99980001;s");
        // what is left of A is wide at a later step
        Due.ratio(x, "7s3+9991s2+9973s/9967s2+9949s+9941");
        due.is(9, "what is left is wide", x.divide(2, 0), Due.WIDE);
        due.is(9, "no ladder came", x.count(2), 1);
        // q is below 0 and fits, then q is below 0 and wide: it is worked ahead of its sign
        Due.ratio(x, "-9973s/9967");
        x.stretch(3, 1, 9999, 1, 9949);
        due.isText(9, "it", Due.ratioText(x, 4), "1:-99720027/9949 | 0:9967/1");
        due.is(9, "q is below 0", x.divide(4, 0), -100);
        x.stretch(4, 9949, 1, 1, 1);
        due.isText(9, "it", Due.ratioText(x, 5), "1:-99720027/98982601 | 0:9967/1");
        due.is(9, "q is wide", x.divide(5, 0), Due.WIDE);
        due.is(9, "q is wide by form 1", x.divide(5, 1), Due.WIDE);
    }

    private static void invert() {
        LadderMaker x = new LadderMaker();
        Due.ratio(x, "3s7-2s2/s9+s4+1");
        due.is(10, "invert(0)", x.invert(0), 1);
        due.isText(10, "it", Due.ratioText(x, 1), "9:1/1 4:1/1 0:1/1 | 7:3/1 2:-2/1");
        due.isText(10, "the old one", Due.ratioText(x, 0), "7:3/1 2:-2/1 | 9:1/1 4:1/1 0:1/1");
        due.is(10, "invert(2)", x.invert(2), Due.BAD);
        due.is(10, "invert(-1)", x.invert(-1), Due.BAD);
        for (int k = 2; k < 6; k++) {
            due.is(10, "invert(1)", x.invert(1), k);
        }
        due.is(10, "a seventh", x.invert(0), Due.FULL);
        due.is(10, "BAD ahead of FULL", x.invert(6), Due.BAD);
        due.is(10, "count(1)", x.count(1), 6);
    }

    private static void stretch() {
        LadderMaker x = new LadderMaker();
        Due.ratio(x, "s2-3s+5/7s3+1");
        due.is(11, "w 2/4, r 9/6", x.stretch(0, 2, 4, 9, 6), 1);
        due.isText(11, "it", Due.ratioText(x, 1), "2:6/1 1:-9/1 0:15/2 | 3:56/1 0:1/1");
        due.isText(11, "the old one", Due.ratioText(x, 0), "2:1/1 1:-3/1 0:5/1 | 3:7/1 0:1/1");
        for (int wrong : NOT_TOLD) {
            due.is(11, "wNum " + wrong, x.stretch(0, wrong, 1, 1, 1), Due.BAD);
            due.is(11, "wDen " + wrong, x.stretch(0, 1, wrong, 1, 1), Due.BAD);
            due.is(11, "rNum " + wrong, x.stretch(0, 1, 1, wrong, 1), Due.BAD);
            due.is(11, "rDen " + wrong, x.stretch(0, 1, 1, 1, wrong), Due.BAD);
        }
        due.is(11, "ratio 2", x.stretch(2, 1, 1, 1, 1), Due.BAD);
        due.is(11, "ratio -1", x.stretch(-1, 1, 1, 1, 1), Due.BAD);
        // 7 over (1/2000) three times
        due.is(11, "wide below", x.stretch(0, 1, 2000, 1, 1), Due.WIDE);
        due.is(11, "count(1)", x.count(1), 2);
        due.is(11, "1/500 is not", x.stretch(0, 1, 500, 1, 1), 2);
        due.isText(11, "it", Due.ratioText(x, 2), "2:250000/1 1:-1500/1 0:5/1 | 3:875000000/1 0:1/1");
        // wide on the way, though r would mend it: 9999s2 over 1/9999 twice
        Due.ratio(x, "9999s2/1");
        due.is(11, "wide on the way", x.stretch(3, 1, 9999, 1, 9999), Due.WIDE);
        due.is(11, "GREAT above is not wide", Due.ratio(x, "s3/1"), 4);
        due.is(11, "GREAT above is not wide", x.stretch(4, 1, 1000, 1, 1), 5);
        due.is(11, "it", x.coefficient(5, 0, 3, 0), 1000000000);
        due.is(11, "a seventh", x.stretch(0, 1, 1, 1, 1), Due.FULL);
        due.is(11, "FULL ahead of WIDE", x.stretch(0, 1, 9999, 1, 1), Due.FULL);
        due.is(11, "BAD ahead of FULL", x.stretch(0, 0, 9999, 1, 1), Due.BAD);
        x.forget(0);
        Due.ratio(x, "s3/s");
        due.is(11, "GREAT below is not wide", x.stretch(0, 1000, 1, 1, 1), 1);
        due.is(11, "it", x.coefficient(1, 0, 3, 1), 1000000000);
        due.is(11, "more below is", x.stretch(0, 1001, 1, 1, 1), Due.WIDE);
        due.is(11, "more above is", x.stretch(0, 1, 1001, 1, 1), Due.WIDE);
        x.forget(0);
        Due.ratio(x, "9999/1");
        due.is(11, "r alone", x.stretch(0, 1, 1, 9999, 1), 1);
        due.is(11, "wide by r alone", x.stretch(1, 1, 1, 9999, 1), Due.WIDE);
        Due.ladder(x, "L1,L1,L1,L1,L1,L1,L1,L1,L1,L1,L1,L1;r1");
        x.multiply(0);
        due.is(11, "power 12", x.stretch(2, 1, 2, 3, 1), 3);
        due.isText(11, "it", Due.ratioText(x, 3), "12:12288/1 | 12:4096/1 11:24576/1");
    }

    private static void shift() {
        LadderMaker x = new LadderMaker();
        Due.ratio(x, "s3-2s+1/5");
        // (s+2)3 - 2(s+2) + 1 = s3 + 6s2 + 10s + 5
        due.is(12, "by 4/2", x.shift(0, 4, 2), 1);
        due.isText(12, "it", Due.ratioText(x, 1), "3:1/1 2:6/1 1:10/1 0:5/1 | 0:5/1");
        due.isText(12, "the old one", Due.ratioText(x, 0), "3:1/1 1:-2/1 0:1/1 | 0:5/1");
        Due.ratio(x, "s/s2+1");
        // (s+1/3) / (s2 + 2/3 s + 10/9)
        due.is(12, "by 1/3", x.shift(2, 1, 3), 3);
        due.isText(12, "it", Due.ratioText(x, 3), "1:1/1 0:1/3 | 2:1/1 1:2/3 0:10/9");
        for (int wrong : NOT_TOLD) {
            due.is(12, "num " + wrong, x.shift(0, wrong, 1), Due.BAD);
            due.is(12, "den " + wrong, x.shift(0, 1, wrong), Due.BAD);
        }
        due.is(12, "ratio 4", x.shift(4, 1, 1), Due.BAD);
        due.is(12, "ratio -1", x.shift(-1, 1, 1), Due.BAD);
        due.is(12, "9999 three times is wide", x.shift(0, 9999, 1), Due.WIDE);
        due.is(12, "count(1)", x.count(1), 4);
        due.is(12, "9999 twice is not", x.shift(2, 9999, 1), 4);
        due.isText(12, "it", Due.ratioText(x, 4), "1:1/1 0:9999/1 | 2:1/1 1:19998/1 0:99980002/1");
        Due.ratio(x, "s9/s9");
        due.is(12, "power 9 by 10", x.shift(5, 10, 1), Due.FULL);
        due.is(12, "BAD ahead of FULL", x.shift(5, 0, 1), Due.BAD);
        x.forget(0);
        Due.ratio(x, "s9/1");
        due.is(12, "power 9 by 5", x.shift(0, 5, 1), 1);
        due.is(12, "it", x.coefficient(1, 0, 2, 0), 36 * 78125);
        due.is(12, "power 9 by 11", x.shift(0, 11, 1), Due.WIDE);
        due.is(12, "power 9 by 10", x.shift(0, 10, 1), 2);
        due.is(12, "GREAT is not wide", x.coefficient(2, 0, 0, 0), 1000000000);
        due.is(12, "power 9 by 7", x.shift(0, 7, 1), 3);
        due.is(12, "it", x.coefficient(3, 0, 1, 0), 9 * 5764801);
        // 9999 times 149985 is wide, though with -899910000 it would not be
        x.forget(0);
        Due.ratio(x, "s-6000/1");
        x.stretch(0, 1, 1, 9999, 1);
        x.stretch(1, 1, 1, 15, 1);
        due.isText(12, "it", Due.ratioText(x, 2), "1:149985/1 0:-899910000/1 | 0:1/1");
        due.is(12, "wide on the way", x.shift(2, 9999, 1), Due.WIDE);
        due.is(12, "not wide", x.shift(2, 6000, 1), 3);
        due.isText(12, "it", Due.ratioText(x, 3), "1:149985/1 | 0:1/1");
        Due.ladder(x, "L1,L1,L1,L1,L1,L1,L1,L1,L1,L1,L1,L1;r1");
        x.multiply(0);
        due.is(12, "power 12", x.shift(4, 1, 1), 5);
        due.isText(12, "it", Due.poly(x, 5, 0), "12:1/1 11:12/1 10:66/1 9:220/1 8:495/1 7:792/1 6:924/1"
                + " 5:792/1 4:495/1 3:220/1 2:66/1 1:12/1 0:1/1");
    }
}
