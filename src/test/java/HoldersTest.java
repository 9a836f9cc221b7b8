/** Promises 36 to 46: holders, the image. */
public final class HoldersTest {
    private static final Due due = new Due("HoldersTest");
    private static final int[] NO_HOLDER = {-1, 6, Integer.MIN_VALUE, Integer.MAX_VALUE};

    public static void main(String[] args) {
        hold();
        drop();
        taken();
        row();
        putAndGet();
        copy();
        judge();
        image();
        imageKeepsAll();
        imageOfAllThatIsFull();
        count();
        due.end();
    }

    private static LadderMaker withLadder() {
        LadderMaker x = new LadderMaker();
        Due.ladder(x, "l6/4,c2/3,r8/9,L5,C7,R11/2;o");
        return x;
    }

    private static void hold() {
        LadderMaker x = withLadder();
        for (int k = 0; k < 6; k++) {
            due.is(36, "hold part " + k, x.hold(k, 0, k), k % 3);
        }
        x.forget(1);
        due.is(36, "a part as it was", x.taken(5, 3), 13);
        due.is(36, "ladder 0 of none", x.hold(0, 0, 0), Due.BAD);
        Due.ladder(x, "C1;o");
        due.is(36, "part 1", x.hold(0, 0, 1), Due.BAD);
        due.is(36, "part -1", x.hold(0, 0, -1), Due.BAD);
        due.is(36, "ladder -1", x.hold(0, -1, 0), Due.BAD);
        for (int wrong : NO_HOLDER) {
            due.is(36, "holder " + wrong, x.hold(wrong, 0, 0), Due.BAD);
        }
        due.is(36, "what was held stays", x.taken(0, 1), 3);
        due.is(36, "another one", x.hold(0, 0, 0), 1);
        due.is(36, "it", x.taken(0, 0), 11);
        x.row(1, 3);
        due.is(36, "over a row", x.hold(1, 0, 0), 1);
        due.is(36, "it", x.drop(1), 1);
    }

    private static void drop() {
        LadderMaker x = withLadder();
        x.hold(0, 0, 0);
        x.row(1, 0);
        due.is(37, "a part", x.drop(0), 1);
        due.is(37, "nothing any more", x.drop(0), 0);
        due.is(37, "a row", x.drop(1), 2);
        due.is(37, "nothing any more", x.drop(1), 0);
        due.is(37, "taken(0, 0)", x.taken(0, 0), -11);
        for (int wrong : NO_HOLDER) {
            due.is(37, "holder " + wrong, x.drop(wrong), Due.BAD);
        }
    }

    private static void taken() {
        LadderMaker x = withLadder();
        long[][] want = {{0, 3, -12, -12}, {10, -12, 3, -12}, {20, -12, -12, 17},
            {1, 5, -12, -12}, {11, -12, 1, -12}, {21, -12, -12, 13}};
        for (int k = 0; k < 6; k++) {
            x.hold(k, 0, k);
            for (int kind = 0; kind < 4; kind++) {
                due.is(38, "part " + k + " for kind " + kind, x.taken(k, kind), want[k][kind]);
            }
        }
        x.drop(2);
        x.row(3, 5);
        for (int kind = 0; kind < 4; kind++) {
            due.is(38, "nothing", x.taken(2, kind), -11);
            due.is(38, "a row", x.taken(3, kind), -12);
        }
        due.is(38, "kind 4", x.taken(0, 4), Due.BAD);
        due.is(38, "kind -1", x.taken(0, -1), Due.BAD);
        due.is(38, "BAD ahead of -11", x.taken(2, 4), Due.BAD);
        for (int wrong : NO_HOLDER) {
            due.is(38, "holder " + wrong, x.taken(wrong, 0), Due.BAD);
        }
        // a resistor of great numbers: 9999 times 9999 times 10 above
        Due.ladder(x, "r9999;s");
        x.scale(1, 1, 1, 9999, 1);
        x.scale(2, 1, 1, 10, 1);
        x.hold(0, 3, 0);
        due.is(38, "above and below together", x.taken(0, 3), 999800011);
    }

    private static void row() {
        LadderMaker x = withLadder();
        due.is(39, "row of 40", x.row(0, 40), 40);
        due.is(39, "put", x.put(0, 39, 5), 1);
        due.is(39, "again", x.row(0, 40), 40);
        due.is(39, "all 0", x.get(0, 39), 0);
        due.is(39, "row of 0", x.row(1, 0), 0);
        due.is(39, "it is a row", x.drop(1), 2);
        due.is(39, "row of 41", x.row(0, 41), Due.BAD);
        due.is(39, "row of -1", x.row(0, -1), -14);
        due.is(39, "row of Integer.MIN_VALUE", x.row(0, Integer.MIN_VALUE), -14);
        due.is(39, "what was held stays", x.get(0, 39), 0);
        for (int wrong : NO_HOLDER) {
            due.is(39, "holder " + wrong, x.row(wrong, 1), Due.BAD);
            due.is(39, "BAD ahead of -14", x.row(wrong, -1), Due.BAD);
        }
        x.hold(2, 0, 0);
        due.is(39, "over a part", x.row(2, 3), 3);
        due.is(39, "it", x.get(2, 2), 0);
        x.put(2, 0, 9);
        x.put(2, 1, 9);
        x.row(2, 1);
        due.is(39, "all 0 anew", x.get(2, 0), 0);
        x.row(2, 2);
        due.is(39, "all 0 behind a shorter one", x.get(2, 1), 0);
    }

    private static void putAndGet() {
        LadderMaker x = withLadder();
        x.row(0, 3);
        x.hold(1, 0, 0);
        due.is(40, "put", x.put(0, 2, Long.MAX_VALUE), 1);
        due.is(40, "put", x.put(0, 0, Long.MIN_VALUE), 1);
        due.is(41, "get", x.get(0, 2), Long.MAX_VALUE);
        due.is(41, "get", x.get(0, 1), 0);
        due.is(41, "get", x.get(0, 0), Long.MIN_VALUE);
        due.is(40, "place 3", x.put(0, 3, 1), -13);
        due.is(40, "place -1", x.put(0, -1, 1), -13);
        due.is(41, "place 3", x.get(0, 3), Due.NO);
        due.is(41, "place -1", x.get(0, -1), Due.NO);
        due.is(41, "place Integer.MAX_VALUE", x.get(0, Integer.MAX_VALUE), Due.NO);
        due.is(41, "place Integer.MIN_VALUE", x.get(0, Integer.MIN_VALUE), Due.NO);
        due.is(40, "a part", x.put(1, 0, 1), -12);
        due.is(41, "a part", x.get(1, 0), Due.NO);
        due.is(40, "nothing", x.put(2, 0, 1), -11);
        due.is(41, "nothing", x.get(2, 0), Due.NO);
        due.is(40, "-11 ahead of -13", x.put(2, -1, 1), -11);
        due.is(40, "-12 ahead of -13", x.put(1, -1, 1), -12);
        due.is(41, "nothing, and no place", x.get(2, -1), Due.NO);
        due.is(41, "a part, and no place", x.get(1, -1), Due.NO);
        for (int wrong : NO_HOLDER) {
            due.is(40, "holder " + wrong, x.put(wrong, 0, 1), Due.BAD);
            due.is(41, "holder " + wrong, x.get(wrong, 0), Due.NO);
        }
        x.row(3, 0);
        due.is(40, "a row of 0", x.put(3, 0, 1), -13);
        due.is(41, "a row of 0", x.get(3, 0), Due.NO);
        x.row(4, 3);
        due.is(41, "another row", x.get(4, 2), 0);
        due.is(41, "a row dropped", x.drop(4), 2);
        due.is(41, "what was in it", x.get(4, 2), Due.NO);
        x.put(0, 1, 7);
        x.hold(0, 0, 0);
        due.is(41, "a part in a row's stead", x.get(0, 1), Due.NO);
        x.row(0, 1);
        due.is(41, "a place beyond a shorter row", x.get(0, 1), Due.NO);
        due.is(41, "what was asked amiss changed nothing", x.get(0, 0), 0);
    }

    private static void rowIs(int promise, LadderMaker x, int h, long... want) {
        for (int i = 0; i < want.length; i++) {
            due.is(promise, "number " + i + " of the row of " + h, x.get(h, i), want[i]);
        }
        due.is(promise, "the end of the row of " + h, x.get(h, want.length), Due.NO);
    }

    private static void copy() {
        LadderMaker x = withLadder();
        x.row(0, 5);
        x.row(1, 3);
        for (int i = 0; i < 5; i++) {
            x.put(0, i, i + 1);
        }
        due.is(42, "to another", x.copy(0, 1, 1, 0, 3), 3);
        rowIs(42, x, 1, 2, 3, 4);
        due.is(42, "onto itself, up", x.copy(0, 0, 0, 1, 4), 4);
        rowIs(42, x, 0, 1, 1, 2, 3, 4);
        due.is(42, "onto itself, down", x.copy(0, 1, 0, 0, 4), 4);
        rowIs(42, x, 0, 1, 2, 3, 4, 4);
        due.is(42, "none, at the very ends", x.copy(0, 5, 1, 3, 0), 0);
        due.is(42, "none, beyond the end", x.copy(0, 6, 1, 3, 0), -13);
        due.is(42, "none, beyond the other end", x.copy(0, 5, 1, 4, 0), -13);
        due.is(42, "n -1", x.copy(0, 0, 1, 0, -1), -13);
        due.is(42, "i -1", x.copy(0, -1, 1, 0, 1), -13);
        due.is(42, "j -1", x.copy(0, 0, 1, -1, 1), -13);
        due.is(42, "more than there are", x.copy(0, 0, 1, 0, 4), -13);
        due.is(42, "more than there are", x.copy(1, 1, 0, 0, 3), -13);
        due.is(42, "far more", x.copy(0, Integer.MAX_VALUE, 1, 0, Integer.MAX_VALUE), -13);
        due.is(42, "far more", x.copy(0, 1, 1, 1, Integer.MAX_VALUE), -13);
        x.hold(2, 0, 0);
        due.is(42, "from a part", x.copy(2, 0, 0, 0, 1), -12);
        due.is(42, "to a part", x.copy(0, 0, 2, 0, 1), -12);
        due.is(42, "-12 ahead of -13", x.copy(0, 0, 2, 0, -1), -12);
        due.is(42, "from nothing", x.copy(3, 0, 0, 0, 1), -11);
        due.is(42, "to nothing", x.copy(0, 0, 3, 0, 1), -11);
        due.is(42, "-11 ahead of -12", x.copy(2, 0, 3, 0, 1), -11);
        for (int wrong : NO_HOLDER) {
            due.is(42, "h " + wrong, x.copy(wrong, 0, 0, 0, 1), Due.BAD);
            due.is(42, "g " + wrong, x.copy(0, 0, wrong, 0, 1), Due.BAD);
            due.is(42, "BAD ahead of -11", x.copy(3, 0, wrong, 0, 1), Due.BAD);
        }
        rowIs(42, x, 0, 1, 2, 3, 4, 4);
        rowIs(42, x, 1, 2, 3, 4);
    }

    private static void judge() {
        LadderMaker x = new LadderMaker();
        Due.ladder(x, "l6/4,C2;s");
        due.is(43, "nothing", x.judge(0, 0), -11);
        x.hold(0, 0, 0);
        due.is(43, "a part", x.judge(0, 0), -12);
        x.row(0, 4);
        due.is(43, "part 0 is otherwise", x.judge(0, 0), 0);
        x.put(0, 0, 3);
        due.is(43, "below the line it is otherwise", x.judge(0, 0), 0);
        x.put(0, 1, 2);
        due.is(43, "part 1 is otherwise", x.judge(0, 0), 1);
        x.put(0, 2, 2);
        x.put(0, 3, 1);
        due.is(43, "all is so", x.judge(0, 0), Due.NOT);
        x.put(0, 2, 4);
        x.put(0, 3, 2);
        due.is(43, "not in lowest terms", x.judge(0, 0), 1);
        x.put(0, 2, 2L + (1L << 32));
        x.put(0, 3, 1);
        due.is(43, "a number beyond an int", x.judge(0, 0), 1);
        x.put(0, 2, 2);
        x.row(1, 5);
        x.copy(0, 0, 1, 0, 4);
        due.is(43, "a number beyond", x.judge(1, 0), 2);
        x.row(1, 3);
        x.copy(0, 0, 1, 0, 3);
        due.is(43, "no two numbers", x.judge(1, 0), 1);
        x.row(1, 2);
        x.copy(0, 0, 1, 0, 2);
        due.is(43, "no number", x.judge(1, 0), 1);
        x.row(1, 1);
        due.is(43, "one number", x.judge(1, 0), 0);
        x.row(1, 0);
        due.is(43, "an empty row", x.judge(1, 0), 0);
        Due.ladder(x, "l1,l1,l1,l1;s");
        x.row(1, 8);
        for (int i = 0; i < 8; i++) {
            x.put(1, i, 1);
        }
        due.is(43, "all four are so", x.judge(1, 1), Due.NOT);
        x.row(1, 7);
        for (int i = 0; i < 7; i++) {
            x.put(1, i, 1);
        }
        due.is(43, "the last one has one number", x.judge(1, 1), 3);
        x.forget(1);
        Due.ladder(x, "l6/4,C2;s");
        due.is(43, "ladder 1", x.judge(0, 1), Due.BAD);
        due.is(43, "ladder -1", x.judge(0, -1), Due.BAD);
        due.is(43, "BAD ahead of -11", x.judge(5, 1), Due.BAD);
        for (int wrong : NO_HOLDER) {
            due.is(43, "holder " + wrong, x.judge(wrong, 0), Due.BAD);
        }
    }

    private static void image() {
        LadderMaker x = new LadderMaker();
        due.is(45, "none was kept", x.undo(), Due.STATE);
        due.is(44, "of nothing", x.image(), 0);
        Due.ladder(x, "l1;s");
        due.is(45, "back to nothing", x.undo(), 0);
        due.is(45, "parts(0)", x.parts(0), Due.BAD);
        Due.ladder(x, "l2;s");
        Due.ladder(x, "l3;r5");
        due.is(44, "of two ladders", x.image(), 2);
        x.close(1, 1, 0, 0);
        x.forget(1);
        Due.ladder(x, "R9,R9;s");
        due.is(45, "back to two", x.undo(), 2);
        due.isText(45, "ladder 0", Due.ladderText(x, 0), "l2/1;s");
        due.isText(45, "ladder 1", Due.ladderText(x, 1), "l3/1;r5/1");
        x.close(1, 0, 0, 0);
        due.is(45, "the image stays", x.undo(), 2);
        due.isText(45, "ladder 1", Due.ladderText(x, 1), "l3/1;r5/1");
    }

    private static void imageKeepsAll() {
        LadderMaker x = new LadderMaker();
        Due.ladder(x, "l2,C5,R3;s");
        x.multiply(0);
        x.stock(0, 2, 1, 3, 4);
        x.stock(1, 7, 1, 3, 4);
        x.build(0, 5);
        x.row(0, 1);
        Due.feed(x, "abc");
        x.image();
        x.wipe();
        Due.feed(x, "de");
        x.put(0, 0, 8);
        x.hold(1, 0, 0);
        x.forget(0);
        x.wipe();
        Due.ratio(x, "s9/2");
        x.stock(0, 2, 1, 9, 9);
        x.stock(1, 1, 1, 9, 9);
        x.stock(2, 1, 1, 9, 9);
        x.build(0, 9);
        x.arrive(2);
        x.build(0, 9);
        Due.feed(x, "de");
        due.is(45, "undo()", x.undo(), 1);
        due.is(45, "the tape is not kept", x.count(0), 2);
        due.is(45, "holders are not kept", x.get(0, 0), 8);
        due.is(45, "holders are not kept", x.taken(1, 1), 2);
        due.is(45, "ratios", x.count(1), 1);
        due.is(45, "the ratio", x.degree(0, 0), 1);
        due.is(45, "bins of sort 0", x.count(6), 1);
        due.is(45, "bins of sort 1", x.count(7), 1);
        due.is(45, "bins of sort 2", x.count(8), 0);
        due.is(45, "count of a bin", x.bin(0, 0, 0), 2);
        due.is(45, "price of a bin", x.bin(0, 0, 1), 4);
        due.is(45, "value of a bin", x.bin(1, 0, 2), 7);
        due.is(45, "spent", x.count(4), 4);
        due.is(45, "wants", x.count(3), 2);
        due.is(45, "wants ever", x.count(5), 2);
        due.is(45, "a want", x.want(0, 1), 5);
        due.is(45, "a want", x.want(0, 3), 5);
        due.is(45, "a want", x.want(1, 2), 1);
        x.build(0, 0);
        due.is(45, "what comes next does not change the image", x.undo(), 1);
        due.is(45, "wants", x.count(3), 2);
    }

    private static void imageOfAllThatIsFull() {
        LadderMaker x = new LadderMaker();
        for (int k = 0; k < 6; k++) {
            Due.ladder(x, "r1,r2,r3,r4,r5,r6,r7,r8,r9,R1,R2,R3;r1");
            Due.ratio(x, "s9/" + (k + 1));
        }
        for (int k = 1; k <= 10; k++) {
            x.stock(0, k, 1, 1, 1);
            x.stock(1, k, 2, 1, 1);
            x.stock(2, k, 9999, 1, 1);
        }
        x.build(0, 1);
        x.build(5, 2);
        due.is(44, "all that is full", x.image(), 6);
        due.is(45, "a want", x.arrive(23), 23);
        x.stock(0, 10, 1, 99, 99);
        x.forget(0);
        x.forget(1);
        due.is(45, "all that is full", x.undo(), 6);
        due.is(45, "ratios", x.count(1), 6);
        due.is(45, "the last ratio", x.coefficient(5, 1, 0, 0), 6);
        due.is(45, "the last ladder", x.value(5, 11, 0), 3);
        due.is(45, "the last bin", x.bin(0, 9, 1), 1);
        due.is(45, "wants", x.count(3), 24);
        due.is(45, "the last want", x.want(23, 2), 9);
        due.is(45, "wants are full", x.build(0, 1), Due.FULL);
        due.is(45, "one arrives", x.arrive(1), 1);
        due.is(45, "the last want", x.want(22, 2), 9);
    }

    private static void count() {
        LadderMaker x = new LadderMaker();
        Due.ladder(x, "l2,C5,R3;s");
        Due.ladder(x, "l2,C5,R3;s");
        x.multiply(0);
        x.multiply(0);
        x.multiply(0);
        x.stock(0, 2, 1, 3, 13);
        for (int k = 1; k <= 2; k++) {
            x.stock(1, k, 1, 3, 4);
        }
        for (int k = 1; k <= 5; k++) {
            x.stock(2, 10 + k, 1, 3, 4);
        }
        x.build(0, 5);
        x.build(0, 5);
        x.arrive(1);
        Due.feed(x, "abcdefg");
        long[] want = {7, 3, 2, 3, 26, 4, 1, 2, 5};
        for (int what = 0; what <= 8; what++) {
            due.is(46, "count(" + what + ")", x.count(what), want[what]);
        }
        due.is(46, "count(9)", x.count(9), Due.BAD);
        due.is(46, "count(-1)", x.count(-1), Due.BAD);
        due.is(46, "count(Integer.MIN_VALUE)", x.count(Integer.MIN_VALUE), Due.BAD);
    }
}
