/** Promises 1 to 5: a new object, the tape and its texts. */
public final class TextsTest {
    private static final Due due = new Due("TextsTest");

    public static void main(String[] args) {
        constants();
        newObject();
        feed();
        wipe();
        ratio();
        ratioFaults();
        ladder();
        ladderFaults();
        due.end();
    }

    private static void constants() {
        due.is(1, "BAD", LadderMaker.BAD, -1);
        due.is(1, "NOT", LadderMaker.NOT, -2);
        due.is(1, "FULL", LadderMaker.FULL, -3);
        due.is(1, "STATE", LadderMaker.STATE, -5);
        due.is(1, "WIDE", LadderMaker.WIDE, -6);
        due.is(1, "NO", LadderMaker.NO, -9223372036854775808L);
    }

    private static void newObject() {
        LadderMaker x = new LadderMaker();
        for (int what = 0; what <= 8; what++) {
            due.is(1, "count(" + what + ")", x.count(what), 0);
        }
        due.is(1, "undo()", x.undo(), Due.STATE);
        due.is(1, "want(0, 0)", x.want(0, 0), Due.NOT);
        due.is(1, "bin(0, 0, 0)", x.bin(0, 0, 0), Due.NOT);
        due.is(1, "degree(0, 0)", x.degree(0, 0), Due.BAD);
        due.is(1, "parts(0)", x.parts(0), Due.BAD);
        due.is(1, "unlike(0, -1, 0)", x.unlike(0, -1, 0), 0);
        for (int h = 0; h < 6; h++) {
            due.is(1, "drop(" + h + ")", x.drop(h), 0);
        }
        LadderMaker other = new LadderMaker();
        Due.ladder(other, "l1;s");
        due.is(1, "another object's ladder", x.count(2), 0);
    }

    private static void feed() {
        LadderMaker x = new LadderMaker();
        due.is(2, "feed of 0 bytes", x.feed('s', 0), Due.BAD);
        due.is(2, "feed of 5 bytes", x.feed('s', 5), Due.BAD);
        due.is(2, "feed of -1 bytes", x.feed('s', -1), Due.BAD);
        due.is(2, "feed of Integer.MIN_VALUE bytes", x.feed('s', Integer.MIN_VALUE), Due.BAD);
        due.is(2, "count(0)", x.count(0), 0);
        // "l12;" then "o", the highest byte first; what is above the n bytes is not looked at
        due.is(2, "feed l12;", x.feed(0x6C31323B, 4), 4);
        due.is(2, "feed o", x.feed(0x7F7F7F6F, 1), 5);
        due.is(2, "ladder()", x.ladder(), 0);
        due.isText(2, "the ladder", Due.ladderText(x, 0), "l12/1;o");
        due.is(2, "feed 2 bytes", x.feed(0x55556C39, 2), 2);
        due.is(2, "feed 3 bytes", x.feed(0x552F333B, 3), 5);
        due.is(2, "feed 1 byte", x.feed(0x73, 1), 6);
        due.is(2, "ladder()", x.ladder(), 1);
        due.isText(2, "the ladder", Due.ladderText(x, 1), "l3/1;s");
        for (int k = 1; k <= 24; k++) {
            due.is(2, "feed no " + k, x.feed(-1, 4), 4 * k);
        }
        due.is(2, "feed 3 more", x.feed(-1, 3), 99);
        due.is(2, "feed 2 beyond 100", x.feed(-1, 2), Due.FULL);
        due.is(2, "none came", x.count(0), 99);
        due.is(2, "BAD ahead of FULL", x.feed(-1, 5), Due.BAD);
        due.is(2, "feed the 100th", x.feed(-1, 1), 100);
        due.is(2, "feed the 101st", x.feed(-1, 1), Due.FULL);
        due.is(2, "count(0)", x.count(0), 100);
    }

    private static void wipe() {
        LadderMaker x = new LadderMaker();
        due.is(3, "wipe()", x.wipe(), 0);
        Due.feed(x, "l1;");
        due.is(3, "wipe()", x.wipe(), 3);
        due.is(3, "wipe()", x.wipe(), 0);
        due.is(3, "count(0)", x.count(0), 0);
        due.is(3, "a text behind it", Due.ladder(x, "c2;o"), 0);
        due.isText(3, "the ladder", Due.ladderText(x, 0), "c2/1;o");
    }

    private static void ratio() {
        LadderMaker x = new LadderMaker();
        due.is(4, "first ratio", Due.ratio(x, "-s9+12s3-4-5s+s0+9999s12/s2+s"), -1023);
        due.is(4, "second try", Due.ratio(x, "-s9+12s3-4-5s+s0+9999s1/-s2+s"), 0);
        due.isText(4, "it", Due.ratioText(x, 0), "9:-1/1 3:12/1 1:9994/1 0:-3/1 | 2:-1/1 1:1/1");
        due.is(4, "the tape is empty", x.count(0), 0);
        due.is(4, "terms of one power", Due.ratio(x, "s+s+2s1-s1+3s0+4/7s-3s"), 1);
        due.isText(4, "it", Due.ratioText(x, 1), "1:3/1 0:7/1 | 1:4/1");
        due.is(4, "above is 0", Due.ratio(x, "s-s/1"), Due.NOT);
        due.is(4, "the tape is empty behind NOT", x.count(0), 0);
        due.is(4, "below is 0", Due.ratio(x, "1/2s3-2s3"), Due.NOT);
        due.is(4, "count(1)", x.count(1), 2);
        StringBuilder longest = new StringBuilder("9999");
        for (int k = 0; k < 18; k++) {
            longest.append("+9999");
        }
        longest.append("/999");
        due.is(4, "a text of 99 bytes", Due.ratio(x, longest.toString()), 2);
        due.isText(4, "it", Due.ratioText(x, 2), "0:189981/1 | 0:999/1");
        for (int k = 3; k < 6; k++) {
            due.is(4, "ratio " + k, Due.ratio(x, "s/1"), k);
        }
        Due.feed(x, "x");
        due.is(4, "a seventh", x.ratio(), Due.FULL);
        due.is(4, "the tape stays behind FULL", x.count(0), 1);
        x.forget(0);
        due.is(4, "the same tape", x.ratio(), -1000);
        due.is(4, "the tape is empty behind a fault", x.count(0), 0);
    }

    private static void ratioFaults() {
        String[] texts = {"", "s", "s/", "/1", "+s/1", "--s/1", "s+/1", "s+-1/1", "0/1", "01/1", "10/1s10",
            "12345/1", "1234s5/12345", "s12/1", "s/1/1", "s/1 ", " s/1", "2ss/1", "s/+1", "s/0", "S/1",
            "1-", "s2s/1", "s/s9", "-", "3s0/1a", "s3+2s/2s2x1", "s/-"};
        int[] faults = {0, 1, 2, 0, 0, 1, 2, 2, 0, 0, 6,
            4, 11, 2, 3, 3, 0, 2, 2, 2, 0,
            2, 2, -1, 1, 5, 9, 3};
        LadderMaker x = new LadderMaker();
        for (int k = 0; k < texts.length; k++) {
            int want = faults[k] < 0 ? 0 : -1000 - faults[k];
            due.is(4, "\"" + texts[k] + "\"", Due.ratio(x, texts[k]), want);
            due.is(4, "the tape behind it", x.count(0), 0);
        }
        x.feed(0x73AF31, 3);
        due.is(4, "a byte beyond 127", x.ratio(), -1001);
        x.feed(0x73002F31, 4);
        due.is(4, "a byte 0", x.ratio(), -1001);
        for (int k = 0; k < 50; k++) {
            x.feed('1' * 256 + '+', 2);
        }
        due.is(4, "100 bytes that end too early", x.ratio(), -1100);
        due.is(4, "a fault ahead of NOT", Due.ratio(x, "s-s/1x"), -1005);
    }

    private static void ladder() {
        LadderMaker x = new LadderMaker();
        due.is(5, "all parts", Due.ladder(x, "l1,c2/4,r9999,L6/4,C1/9999,R10;r8/6"), 0);
        due.isText(5, "it", Due.ladderText(x, 0), "l1/1,c1/2,r9999/1,L3/2,C1/9999,R10/1;r4/3");
        due.is(5, "the tape is empty", x.count(0), 0);
        due.is(5, "12 parts", Due.ladder(x, "l1,l1,l1,l1,l1,l1,l1,l1,l1,l1,l1,C7;o"), 1);
        due.is(5, "parts(1)", x.parts(1), 12);
        due.is(5, "end(1)", x.end(1), 1);
        due.is(5, "short", Due.ladder(x, "R3;s"), 2);
        due.is(5, "end(2)", x.end(2), 0);
        due.is(5, "a whole loss", Due.ladder(x, "R3;r5"), 3);
        due.isText(5, "it", Due.ladderText(x, 3), "R3/1;r5/1");
        due.is(5, "fifth", Due.ladder(x, "R3;r5"), 4);
        due.is(5, "sixth", Due.ladder(x, "R3;r5"), 5);
        Due.feed(x, "l0");
        due.is(5, "a seventh", x.ladder(), Due.FULL);
        due.is(5, "the tape stays behind FULL", x.count(0), 2);
        due.is(5, "forget(1)", x.forget(1), 6);
        due.is(5, "the same tape", x.ladder(), -1001);
        due.is(5, "count(2)", x.count(2), 0);
    }

    private static void ladderFaults() {
        String[] texts = {"", "l", "l1", "l1;", "l1;x", "l1;s;", "l1;o1", "l1;r", "l1;r1/", "l1;r1/2/3",
            "l0;s", "l1/0;s", "l12345;s", "l1/12345;s", "x1;s", "l1,;s", "l1;S", "l1c1;s", ";s", ",l1;s",
            "l1/;s", "l1;R1", "l1 ;s", "l1;r0", "l1;r12345", "l-1;s", "s1;s",
            "l1,l1,l1,l1,l1,l1,l1,l1,l1,l1,l1,l1,l1;s", "l1,l1,l1,l1,l1,l1,l1,l1,l1,l1,l1,l1,"};
        int[] faults = {0, 1, 2, 3, 3, 4, 4, 4, 6, 7,
            1, 3, 5, 7, 0, 3, 3, 2, 0, 0,
            3, 3, 2, 4, 8, 1, 0,
            35, 35};
        LadderMaker x = new LadderMaker();
        for (int k = 0; k < texts.length; k++) {
            due.is(5, "\"" + texts[k] + "\"", Due.ladder(x, texts[k]), -1000 - faults[k]);
            due.is(5, "the tape behind it", x.count(0), 0);
        }
        due.is(5, "no ladder came", x.count(2), 0);
    }
}
