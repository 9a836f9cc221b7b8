/** Promises 25 to 27: worth, reactance. */
public final class WorthTest {
    private static final Due due = new Due("WorthTest");
    private static final int[] NOT_TOLD = {0, -1, 10000, Integer.MIN_VALUE, Integer.MAX_VALUE};

    public static void main(String[] args) {
        worth();
        worthRefused();
        react();
        reactRefused();
        first();
        firstRefused();
        due.end();
    }

    private static void worthIs(String ladder, int num, int den, long above, long below) {
        LadderMaker x = new LadderMaker();
        Due.ladder(x, ladder);
        due.is(25, "worth of " + ladder, x.worth(0, num, den, 0), above);
        due.is(25, "worth below of " + ladder, x.worth(0, num, den, 1), below);
    }

    private static void worth() {
        worthIs("l2;s", 6, 4, 3, 1);
        worthIs("c2;s", 6, 4, 1, 3);
        worthIs("r2;s", 6, 4, 2, 1);
        worthIs("L2;o", 6, 4, 3, 1);
        worthIs("C2;o", 6, 4, 1, 3);
        worthIs("R2;o", 6, 4, 2, 1);
        worthIs("l2;o", 1, 1, 1, 0);
        worthIs("C2;s", 1, 1, 0, 1);
        worthIs("l2;r5", 1, 1, 7, 1);
        worthIs("L2;r5", 1, 1, 10, 7);
        worthIs("C2;r5", 1, 1, 5, 11);
        worthIs("R2;r5", 1, 1, 10, 7);
        // from the last: 5 and 1/(3*2): 31/6; R4: 1/(6/31 + 1/4) = 124/55; l7 * 2: 14 + 124/55
        worthIs("l7,R4,c3;r5", 2, 1, 894, 55);
        worthIs("R4,l2;o", 1, 1, 4, 1);
        worthIs("r4,C2;s", 1, 1, 4, 1);
    }

    private static void worthRefused() {
        LadderMaker x = new LadderMaker();
        Due.ladder(x, "l9999;o");
        Due.ladder(x, "C9999;s");
        Due.ladder(x, "l1/9999;o");
        due.is(25, "ladder 3", x.worth(3, 1, 1, 0), Due.NO);
        due.is(25, "ladder -1", x.worth(-1, 1, 1, 0), Due.NO);
        due.is(25, "part 2", x.worth(0, 1, 1, 2), Due.NO);
        due.is(25, "part -1", x.worth(0, 1, 1, -1), Due.NO);
        for (int wrong : NOT_TOLD) {
            due.is(25, "num " + wrong, x.worth(0, wrong, 1, 0), Due.NO);
            due.is(25, "den " + wrong, x.worth(0, 1, wrong, 0), Due.NO);
        }
        due.is(25, "not wide", x.worth(0, 9999, 1, 0), 1);
        x.scale(0, 1, 9999, 1, 1);
        due.is(25, "99980001", x.value(3, 0, 0), 99980001);
        due.is(25, "t is worked, needed or not", x.worth(3, 9999, 1, 0), Due.NO);
        due.is(25, "t is worked, needed or not", x.worth(3, 9, 1, 0), 1);
        x.scale(1, 1, 9999, 1, 1);
        due.is(25, "t is worked by a shunt, too", x.worth(4, 9999, 1, 0), Due.NO);
        due.is(25, "t is worked by a shunt, too", x.worth(4, 9, 1, 0), 0);
        // a sum that is wide: 1/9999 and 1/9998 and 1/9997
        Due.ladder(x, "r1/9999,r1/9998,r1/9997;s");
        due.is(25, "a sum that is wide", x.worth(5, 1, 1, 0), Due.NO);
    }

    private static void reactIs(String ladder, int num, int den, long above, long below) {
        LadderMaker x = new LadderMaker();
        Due.ladder(x, ladder);
        due.is(26, "react of " + ladder, x.react(0, num, den, 0), above);
        due.is(26, "react below of " + ladder, x.react(0, num, den, 1), below);
    }

    private static void react() {
        reactIs("l2;s", 6, 4, 3, 1);
        reactIs("c2;s", 6, 4, -1, 3);
        reactIs("L2;o", 6, 4, 3, 1);
        reactIs("C2;o", 6, 4, -1, 3);
        reactIs("l2;o", 1, 1, 1, 0);
        reactIs("C2;s", 1, 1, 0, 1);
        reactIs("L2;s", 1, 1, 0, 1);
        reactIs("c2;o", 1, 1, 1, 0);
        // 2 w and 1/(2 w) are alike at w 1/2: 0
        reactIs("l2,c2;s", 1, 2, 0, 1);
        reactIs("l2,C2;o", 1, 2, 0, 1);
        // a shunt of both is INFINITE there
        reactIs("L2,C2;o", 1, 2, 1, 0);
        reactIs("l7,C2,l2;s", 1, 2, 1, 0);
        // C2 beside l3 at 1: u 2 - 1/3 = 5/3: -3/5; l1: 2/5
        reactIs("l1,C2,l3;s", 1, 1, 2, 5);
        // L2 beside 3: u -1/2 - 1/3 = -5/6: 6/5
        reactIs("L2,l3;s", 1, 1, 6, 5);
        // 0 behind a shunt stays 0
        reactIs("C5,l2,c2;s", 1, 2, 0, 1);
    }

    private static void reactRefused() {
        LadderMaker x = new LadderMaker();
        Due.ladder(x, "l1,r1;s");
        Due.ladder(x, "l1;r1");
        Due.ladder(x, "l1;s");
        Due.ladder(x, "R1;o");
        due.is(26, "a series resistor", x.react(0, 1, 1, 0), Due.NO);
        due.is(26, "a lossy end", x.react(1, 1, 1, 0), Due.NO);
        due.is(26, "a shunt resistor", x.react(3, 1, 1, 0), Due.NO);
        due.is(26, "none", x.react(2, 1, 1, 0), 1);
        due.is(26, "ladder 4", x.react(4, 1, 1, 0), Due.NO);
        due.is(26, "ladder -1", x.react(-1, 1, 1, 0), Due.NO);
        due.is(26, "part 2", x.react(2, 1, 1, 2), Due.NO);
        due.is(26, "part -1", x.react(2, 1, 1, -1), Due.NO);
        for (int wrong : NOT_TOLD) {
            due.is(26, "num " + wrong, x.react(2, wrong, 1, 0), Due.NO);
            due.is(26, "den " + wrong, x.react(2, 1, wrong, 0), Due.NO);
        }
        x.close(1, 1, 0, 0);
        due.is(26, "no more lossy", x.react(1, 1, 1, 0), 1);
        due.is(26, "no more lossy", x.react(1, 1, 1, 1), 0);
        Due.ladder(x, "l9999,C1;s");
        x.scale(4, 1, 9999, 1, 1);
        due.is(26, "t is worked, needed or not", x.react(5, 9999, 1, 0), Due.NO);
        x.close(5, 1, 0, 0);
        due.is(26, "wide", x.react(5, 9999, 1, 0), Due.NO);
    }

    private static void first() {
        LadderMaker x = new LadderMaker();
        // l1/9 w - 1/w: 0 at 3; below 0 at 1
        Due.ladder(x, "l1/9,c1;s");
        due.is(27, "0", x.first(0, 0), 3);
        due.is(27, "INFINITE at none", x.first(0, 1), Due.NOT);
        due.is(27, "below 0", x.first(0, 2), 1);
        // C1/1600 beside L1: INFINITE at 40; below 0 beyond it
        Due.ladder(x, "C1/1600,L1;o");
        due.is(27, "INFINITE at 40", x.first(1, 1), 40);
        due.is(27, "0 at none", x.first(1, 0), Due.NOT);
        due.is(27, "below 0 at none", x.first(1, 2), Due.NOT);
        Due.ladder(x, "C1/1681,L1;o");
        due.is(27, "INFINITE at 41 only", x.first(2, 1), Due.NOT);
        Due.ladder(x, "C1/25,L1;o");
        due.is(27, "below 0 behind what is INFINITE", x.first(3, 2), 6);
        Due.ladder(x, "l1;o");
        due.is(27, "INFINITE is not below 0", x.first(4, 2), Due.NOT);
        due.is(27, "INFINITE at once", x.first(4, 1), 1);
        Due.ladder(x, "C1;s");
        due.is(27, "0 at once", x.first(5, 0), 1);
        due.is(27, "0 is not below 0", x.first(5, 2), Due.NOT);
    }

    private static void firstRefused() {
        LadderMaker x = new LadderMaker();
        Due.ladder(x, "l1,r1;s");
        Due.ladder(x, "l1;r1");
        due.is(27, "a resistor", x.first(0, 0), Due.STATE);
        due.is(27, "a lossy end", x.first(1, 0), Due.STATE);
        due.is(27, "what 3", x.first(0, 3), Due.BAD);
        due.is(27, "what -1", x.first(0, -1), Due.BAD);
        due.is(27, "ladder 2", x.first(2, 0), Due.BAD);
        due.is(27, "ladder -1", x.first(-1, 0), Due.BAD);
        // 99980001 w is wide at 11
        Due.ladder(x, "l9999;s");
        x.scale(2, 1, 9999, 1, 1);
        due.is(27, "WIDE at 11", x.first(3, 0), Due.WIDE);
        x.close(3, 1, 0, 0);
        due.is(27, "found ahead of WIDE", x.first(3, 1), 1);
        due.is(27, "WIDE at 11", x.first(3, 2), Due.WIDE);
    }
}
