/** Promises 28 to 35: the store. */
public final class StoreTest {
    private static final Due due = new Due("StoreTest");
    private static final int[] NOT_TOLD = {0, -1, 10000, Integer.MIN_VALUE, Integer.MAX_VALUE};

    public static void main(String[] args) {
        stock();
        bin();
        nearest();
        nearestExactly();
        build();
        buildFull();
        arrive();
        wantsInOrder();
        cost();
        unlike();
        due.end();
    }

    private static void stock() {
        LadderMaker x = new LadderMaker();
        due.is(28, "a bin", x.stock(0, 3, 1, 5, 7), 1);
        due.is(28, "a lesser one", x.stock(0, 1, 2, 0, 1), 2);
        due.is(28, "the first one anew", x.stock(0, 6, 2, 99, 99), 2);
        due.is(28, "its count", x.bin(0, 1, 0), 99);
        due.is(28, "its price", x.bin(0, 1, 1), 99);
        due.is(28, "another sort", x.stock(2, 3, 1, 5, 7), 1);
        for (int wrong : NOT_TOLD) {
            due.is(28, "num " + wrong, x.stock(0, wrong, 1, 1, 1), Due.BAD);
            due.is(28, "den " + wrong, x.stock(0, 1, wrong, 1, 1), Due.BAD);
        }
        due.is(28, "sort 3", x.stock(3, 1, 1, 1, 1), Due.BAD);
        due.is(28, "sort -1", x.stock(-1, 1, 1, 1, 1), Due.BAD);
        due.is(28, "count -1", x.stock(0, 1, 1, -1, 1), Due.BAD);
        due.is(28, "count 100", x.stock(0, 1, 1, 100, 1), Due.BAD);
        due.is(28, "price 0", x.stock(0, 1, 1, 1, 0), Due.BAD);
        due.is(28, "price 100", x.stock(0, 1, 1, 1, 100), Due.BAD);
        due.is(28, "count(6)", x.count(6), 2);
        for (int k = 3; k <= 10; k++) {
            due.is(28, "bin " + k, x.stock(0, 9 + k, 1, 1, 1), k);
        }
        due.is(28, "the greatest of ten", x.bin(0, 9, 2), 19);
        due.is(30, "of ten bins", x.nearest(0, 9999, 1, 0), 19);
        due.is(30, "of ten bins", x.nearest(0, 1, 9999, 1), 2);
        due.is(28, "an 11th", x.stock(0, 9999, 1, 1, 1), Due.FULL);
        due.is(28, "one of the ten", x.stock(0, 2, 4, 8, 9), 10);
        due.is(28, "its count", x.bin(0, 0, 0), 8);
        due.is(28, "BAD ahead of FULL", x.stock(0, 9999, 1, 1, 0), Due.BAD);
        due.is(28, "another sort", x.stock(1, 9999, 1, 1, 1), 1);
    }

    private static void bin() {
        LadderMaker x = new LadderMaker();
        x.stock(1, 7, 2, 4, 5);
        x.stock(1, 10, 3, 6, 7);
        x.stock(1, 9999, 2, 8, 9);
        x.stock(1, 1, 9999, 1, 2);
        long[] want = {1, 2, 1, 9999, 6, 7, 10, 3, 4, 5, 7, 2, 8, 9, 9999, 2};
        for (int k = 0; k < 4; k++) {
            for (int what = 0; what < 4; what++) {
                due.is(29, "bin(1, " + k + ", " + what + ")", x.bin(1, k, what), want[4 * k + what]);
            }
        }
        due.is(29, "bin 4", x.bin(1, 4, 0), Due.NOT);
        due.is(29, "bin Integer.MAX_VALUE", x.bin(1, Integer.MAX_VALUE, 0), Due.NOT);
        due.is(29, "bin 0 of another sort", x.bin(0, 0, 0), Due.NOT);
        due.is(29, "bin -1", x.bin(1, -1, 0), Due.BAD);
        due.is(29, "what 4", x.bin(1, 0, 4), Due.BAD);
        due.is(29, "what -1", x.bin(1, 0, -1), Due.BAD);
        due.is(29, "sort 3", x.bin(3, 0, 0), Due.BAD);
        due.is(29, "sort -1", x.bin(-1, 0, 0), Due.BAD);
        due.is(29, "BAD ahead of NOT", x.bin(1, 4, 4), Due.BAD);
    }

    private static void nearest() {
        LadderMaker x = new LadderMaker();
        due.is(30, "no bin", x.nearest(0, 1, 1, 0), Due.NO);
        x.stock(0, 6, 1, 0, 1);
        due.is(30, "one bin", x.nearest(0, 9999, 1, 0), 6);
        x.stock(0, 2, 1, 3, 1);
        x.stock(0, 7, 2, 3, 1);
        due.is(30, "as near: the lesser", x.nearest(0, 11, 4, 0), 2);
        due.is(30, "a little more", x.nearest(0, 2751, 1000, 0), 7);
        due.is(30, "below the line", x.nearest(0, 2751, 1000, 1), 2);
        due.is(30, "far below", x.nearest(0, 1, 9999, 0), 2);
        due.is(30, "one of count 0", x.nearest(0, 5, 1, 0), 6);
        due.is(30, "just it", x.nearest(0, 14, 4, 0), 7);
        due.is(30, "another sort", x.nearest(1, 1, 1, 0), Due.NO);
        due.is(30, "sort 3", x.nearest(3, 1, 1, 0), Due.NO);
        due.is(30, "sort -1", x.nearest(-1, 1, 1, 0), Due.NO);
        due.is(30, "part 2", x.nearest(0, 1, 1, 2), Due.NO);
        due.is(30, "part -1", x.nearest(0, 1, 1, -1), Due.NO);
        for (int wrong : NOT_TOLD) {
            due.is(30, "num " + wrong, x.nearest(0, wrong, 1, 0), Due.NO);
            due.is(30, "den " + wrong, x.nearest(0, 1, wrong, 0), Due.NO);
        }
    }

    private static void nearestExactly() {
        LadderMaker x = new LadderMaker();
        x.stock(0, 9998, 9999, 0, 1);
        x.stock(0, 9996, 9997, 0, 1);
        // they differ by some 2 of 10^8; 9997/9998 is between them, a little nearer to the greater one
        due.is(30, "no WIDE", x.nearest(0, 9997, 9998, 0), 9998);
        due.is(30, "no WIDE", x.nearest(0, 9995, 9996, 0), 9996);
        // a value far beyond 9999 with bins beside one another, by fit
        Due.ladder(x, "l9999;s");
        x.scale(0, 1, 1, 9999, 9998);
        x.stock(0, 9999, 1, 0, 1);
        x.stock(0, 9998, 1, 0, 1);
        x.fit(1);
        due.isText(30, "99980001/9998", Due.ladderText(x, 2), "l9999/1;s");
    }

    private static void build() {
        LadderMaker x = new LadderMaker();
        Due.ladder(x, "l3,C2,l3,R4,l3;s");
        x.stock(0, 3, 1, 2, 7);
        x.stock(1, 2, 1, 0, 50);
        x.stock(2, 5, 1, 9, 60);
        due.is(31, "build(0, 4)", x.build(0, 4), 3);
        due.is(31, "spent", x.count(4), 14);
        due.is(31, "count of the bin", x.bin(0, 0, 0), 0);
        due.is(31, "count of the other", x.bin(2, 0, 0), 9);
        due.is(31, "wants", x.count(3), 3);
        due.is(31, "wants ever", x.count(5), 3);
        x.stock(0, 3, 1, 99, 9);
        x.stock(1, 2, 1, 1, 50);
        due.is(31, "again", x.build(0, 0), 1);
        due.is(31, "spent", x.count(4), 14 + 27 + 50);
        due.is(31, "count of the bin", x.bin(0, 0, 0), 96);
        due.is(31, "urgency 10", x.build(0, 10), Due.BAD);
        due.is(31, "urgency -1", x.build(0, -1), Due.BAD);
        due.is(31, "ladder 1", x.build(1, 0), Due.BAD);
        due.is(31, "ladder -1", x.build(-1, 0), Due.BAD);
        x.stock(2, 4, 1, 1, 1);
        x.stock(1, 2, 1, 1, 50);
        due.is(31, "nothing lacks", x.build(0, 9), 0);
        due.is(31, "spent", x.count(4), 91 + 27 + 51);
        due.is(31, "the ladder stays", x.parts(0), 5);
        Due.ladder(x, "l6,C6,l8,C8,l6;s");
        x.stock(0, 6, 1, 1, 1);
        x.stock(1, 6, 1, 1, 1);
        x.stock(0, 8, 1, 1, 1);
        x.stock(1, 8, 1, 1, 1);
        due.is(31, "like values of unlike sorts", x.build(1, 9), 1);
    }

    private static void buildFull() {
        LadderMaker x = new LadderMaker();
        Due.ladder(x, "l1,l1,l1,l1,l1,l1,l1,l1,l1,l1,l1,l2;s");
        Due.ladder(x, "l3,C1;s");
        due.is(31, "12 wants", x.build(0, 1), 12);
        due.is(31, "1 want of each", x.build(1, 1), 2);
        x.stock(0, 1, 1, 1, 5);
        due.is(31, "25 wants", x.build(0, 1), Due.FULL);
        due.is(31, "nothing is spent", x.count(4), 0);
        due.is(31, "the bin stays", x.bin(0, 0, 0), 1);
        due.is(31, "wants", x.count(3), 14);
        due.is(31, "wants ever", x.count(5), 14);
        due.is(31, "BAD ahead of FULL", x.build(0, 10), Due.BAD);
        x.stock(0, 1, 1, 2, 5);
        due.is(31, "24 wants", x.build(0, 1), 10);
        due.is(31, "wants", x.count(3), 24);
        due.is(31, "spent", x.count(4), 10);
        due.is(31, "a 25th", x.build(1, 1), Due.FULL);
        x.stock(0, 3, 1, 1, 1);
        x.stock(1, 1, 1, 1, 1);
        due.is(31, "none comes", x.build(1, 1), 0);
    }

    private static void arrive() {
        LadderMaker x = new LadderMaker();
        due.is(32, "none is there", x.arrive(1), 0);
        Due.ladder(x, "l1,C5,r2,l7;s");
        x.build(0, 3);
        due.is(32, "arrive(0)", x.arrive(0), Due.BAD);
        due.is(32, "arrive(-1)", x.arrive(-1), Due.BAD);
        due.is(32, "arrive(25)", x.arrive(25), Due.BAD);
        due.is(32, "arrive(1)", x.arrive(1), 1);
        due.is(32, "the greatest coil is gone", x.want(0, 3), 1);
        due.is(32, "wants", x.count(3), 3);
        x.build(0, 3);
        due.is(32, "numbers go ever on", x.want(0, 2), 7);
        due.is(32, "arrive(24) of 7", x.arrive(24), 7);
        due.is(32, "wants", x.count(3), 0);
        due.is(32, "wants ever", x.count(5), 8);
        due.is(32, "want(0, 0)", x.want(0, 0), Due.NOT);
        x.build(0, 3);
        due.is(32, "the next number", x.want(1, 2), 8);
        due.is(32, "no bin comes by it", x.count(6), 0);
    }

    private static void wantsInOrder() {
        LadderMaker x = new LadderMaker();
        Due.ladder(x, "r1/2,l1/3,C9,l1/2;s");
        Due.ladder(x, "L1/3,C10/3;o");
        x.build(0, 3);
        x.build(1, 3);
        x.build(1, 9);
        x.build(1, 0);
        long[][] want = {
            {0, 9, 6, 1, 3}, {1, 9, 7, 10, 3},
            {0, 3, 3, 1, 2}, {0, 3, 1, 1, 3}, {0, 3, 4, 1, 3}, {1, 3, 2, 9, 1}, {1, 3, 5, 10, 3}, {2, 3, 0, 1, 2},
            {0, 0, 8, 1, 3}, {1, 0, 9, 10, 3}};
        for (int k = 0; k < want.length; k++) {
            for (int what = 0; what < 5; what++) {
                due.is(33, "want(" + k + ", " + what + ")", x.want(k, what), want[k][what]);
            }
        }
        due.is(33, "want 10", x.want(10, 0), Due.NOT);
        due.is(33, "want Integer.MAX_VALUE", x.want(Integer.MAX_VALUE, 0), Due.NOT);
        due.is(33, "want -1", x.want(-1, 0), Due.BAD);
        due.is(33, "what 5", x.want(0, 5), Due.BAD);
        due.is(33, "what -1", x.want(0, -1), Due.BAD);
        due.is(33, "BAD ahead of NOT", x.want(10, 5), Due.BAD);
        x.arrive(4);
        due.is(33, "behind arrive", x.want(0, 2), 4);
        due.is(33, "behind arrive", x.want(1, 2), 2);
    }

    private static void cost() {
        LadderMaker x = new LadderMaker();
        Due.ladder(x, "l3,C2/3,l3,R4;s");
        due.is(34, "no bin", x.cost(0), Due.NOT);
        x.stock(0, 3, 1, 0, 7);
        x.stock(1, 4, 6, 0, 20);
        x.stock(2, 5, 1, 1, 1);
        due.is(34, "another value", x.cost(0), Due.NOT);
        x.stock(2, 4, 1, 1, 99);
        due.is(34, "cost(0)", x.cost(0), 7 + 20 + 7 + 99);
        due.is(34, "the bins stay", x.bin(2, 0, 0), 1);
        due.is(34, "nothing is spent", x.count(4), 0);
        due.is(34, "cost(1)", x.cost(1), Due.BAD);
        due.is(34, "cost(-1)", x.cost(-1), Due.BAD);
    }

    private static void unlike() {
        LadderMaker x = new LadderMaker();
        due.is(35, "none", x.unlike(0, -1, 0), 0);
        due.is(35, "number 0 of none", x.unlike(0, 0, 0), Due.NO);
        Due.ladder(x, "l3,L10/3,l7/2,C8;s");
        Due.ladder(x, "l6/2,L1,r9;o");
        due.is(35, "how many", x.unlike(0, -1, 0), 4);
        due.is(35, "how many, part 1", x.unlike(0, -1, 1), 4);
        long[] want = {7, 2, 10, 3, 3, 1, 1, 1};
        for (int k = 0; k < 4; k++) {
            due.is(35, "above of " + k, x.unlike(0, k, 0), want[2 * k]);
            due.is(35, "below of " + k, x.unlike(0, k, 1), want[2 * k + 1]);
        }
        due.is(35, "number 4", x.unlike(0, 4, 0), Due.NO);
        due.is(35, "number Integer.MAX_VALUE", x.unlike(0, Integer.MAX_VALUE, 0), Due.NO);
        due.is(35, "condensers", x.unlike(1, -1, 0), 1);
        due.is(35, "resistors", x.unlike(2, 0, 0), 9);
        due.is(35, "k -2", x.unlike(0, -2, 0), Due.NO);
        due.is(35, "part 2", x.unlike(0, -1, 2), Due.NO);
        due.is(35, "part -1", x.unlike(0, 0, -1), Due.NO);
        due.is(35, "sort 3", x.unlike(3, -1, 0), Due.NO);
        due.is(35, "sort -1", x.unlike(-1, -1, 0), Due.NO);
        x.forget(1);
        due.is(35, "ladders that are no more", x.unlike(0, -1, 0), 0);
        // 72 unlike values
        LadderMaker y = new LadderMaker();
        for (int n = 0; n < 6; n++) {
            StringBuilder text = new StringBuilder();
            for (int k = 0; k < 12; k++) {
                text.append(k == 0 ? "c" : ",C").append(1 + n + 6 * k);
            }
            due.is(35, "a ladder", Due.ladder(y, text.append(";s").toString()), n);
        }
        due.is(35, "how many", y.unlike(1, -1, 0), 72);
        for (int k = 0; k < 72; k++) {
            due.is(35, "number " + k, y.unlike(1, k, 0), 72 - k);
        }
        due.is(35, "number 72", y.unlike(1, 72, 0), Due.NO);
    }
}
