/**
 * A maker of ladder filters. The promises that it keeps are numbered in the project's document;
 * the words in capitals there (RATIO, LADDER, PART, BIN, WANT ..) name the same things here.
 */
public final class LadderMaker {
    public static final int BAD = -1, NOT = -2, FULL = -3, STATE = -5, WIDE = -6;
    public static final long NO = Long.MIN_VALUE;

    private static final int NOTHING_THERE = -11, OTHER_KIND = -12;
    private static final int NO_SUCH_PLACE = -13, SIZE_BELOW_NOTHING = -14;
    private static final int PART_BELOW_NOTHING = -100, STEP_TOO_GREAT = -200;
    private static final int TOO_MANY_PARTS = -300, TEXT_FAULT = -1000;
    private static final int FINE = 0, GOES_ON = 1;

    private static final int COIL = 0, CONDENSER = 1, RESISTOR = 2, SORTS = 3;
    private static final int SHORT = 0, OPEN = 1, LOSSY = 2;
    private static final int HOLDS_NOTHING = 0, HOLDS_PART = 1, HOLDS_ROW = 2;

    private static final int MOST_RATIOS = 6, MOST_LADDERS = 6, MOST_PARTS = 12, MOST_POWER = 12;
    private static final int MOST_BYTES = 100, MOST_BINS = 10, MOST_WANTS = 24;
    private static final int HOLDERS = 6, MOST_ROW = 40, LAST_FREQUENCY = 40;
    private static final int MOST_TOLD = 9999, MOST_COUNT = 99, MOST_PRICE = 99, MOST_URGENCY = 9;

    private final Tape tape;
    private final Divider divider;
    private final Workshop now;
    private final Workshop kept;
    private final Holder[] holders;
    private boolean isKept;

    public LadderMaker() {
        tape = new Tape();
        divider = new Divider();
        now = new Workshop();
        kept = new Workshop();
        holders = new Holder[HOLDERS];
        for (int h = 0; h < HOLDERS; h++) {
            holders[h] = new Holder();
        }
        isKept = false;
    }

    // ---- texts

    public int feed(int v, int n) {
        if (n < 1 || n > 4) {
            return BAD;
        }
        if (tape.size + n > MOST_BYTES) {
            return FULL;
        }
        for (int k = n - 1; k >= 0; k--) {
            tape.append((v >>> (8 * k)) & 255);
        }
        return tape.size;
    }

    public int wipe() {
        return tape.empty();
    }

    public int ratio() {
        Ratio made = now.freeRatio();
        if (made == null) {
            return FULL;
        }
        boolean isText = tape.readRatio(made);
        tape.empty();
        if (!isText) {
            return TEXT_FAULT - tape.place;
        }
        return made.hasZeroPoly() ? NOT : now.addRatio();
    }

    public int ladder() {
        Ladder made = now.freeLadder();
        if (made == null) {
            return FULL;
        }
        boolean isText = tape.readLadder(made);
        tape.empty();
        return isText ? now.addLadder() : TEXT_FAULT - tape.place;
    }

    // ---- ratios

    public int degree(int ratio, int what) {
        Ratio asked = now.findRatio(ratio);
        if (asked == null) {
            return BAD;
        }
        switch (what) {
            case 0:
                return asked.above.highest();
            case 1:
                return asked.above.lowest();
            case 2:
                return asked.below.highest();
            case 3:
                return asked.below.lowest();
            default:
                return BAD;
        }
    }

    public long coefficient(int ratio, int side, int power, int part) {
        Ratio asked = now.findRatio(ratio);
        if (asked == null || !isWithin(side, 0, 1) || !isWithin(power, 0, MOST_POWER)) {
            return NO;
        }
        return tell((side == 0 ? asked.above : asked.below).at(power), part);
    }

    public int same(int ratio, int other) {
        Ratio one = now.findRatio(ratio);
        Ratio two = now.findRatio(other);
        return one == null || two == null ? BAD : one.tellWhetherSame(two);
    }

    public int divide(int ratio, int form) {
        Ratio from = now.findRatio(ratio);
        if (from == null || !isWithin(form, 0, 1)) {
            return BAD;
        }
        Ladder made = now.freeLadder();
        if (made == null) {
            return FULL;
        }
        int answer = divider.work(from, form, made);
        return answer == FINE ? now.addLadder() : answer;
    }

    public int invert(int ratio) {
        Ratio from = now.findRatio(ratio);
        if (from == null) {
            return BAD;
        }
        Ratio made = now.freeRatio();
        if (made == null) {
            return FULL;
        }
        made.above.become(from.below);
        made.below.become(from.above);
        return now.addRatio();
    }

    public int stretch(int ratio, int wNum, int wDen, int rNum, int rDen) {
        Ratio from = now.findRatio(ratio);
        if (from == null || !isTold(wNum, wDen) || !isTold(rNum, rDen)) {
            return BAD;
        }
        Ratio made = now.freeRatio();
        if (made == null) {
            return FULL;
        }
        boolean fits = made.becomeScaled(from, Fractions.of(wNum, wDen), Fractions.of(rNum, rDen));
        return fits ? now.addRatio() : WIDE;
    }

    public int shift(int ratio, int num, int den) {
        Ratio from = now.findRatio(ratio);
        if (from == null || !isTold(num, den)) {
            return BAD;
        }
        Ratio made = now.freeRatio();
        if (made == null) {
            return FULL;
        }
        return made.becomeShifted(from, Fractions.of(num, den)) ? now.addRatio() : WIDE;
    }

    // ---- ladders

    public int parts(int ladder) {
        Ladder asked = now.findLadder(ladder);
        return asked == null ? BAD : asked.size;
    }

    public int end(int ladder) {
        Ladder asked = now.findLadder(ladder);
        return asked == null ? BAD : asked.ending;
    }

    public int part(int ladder, int k, int what) {
        Ladder asked = now.findLadder(ladder);
        if (asked == null || !asked.has(k) || !isWithin(what, 0, 1)) {
            return BAD;
        }
        if (what == 0) {
            return asked.sorts[k];
        }
        return asked.shunts[k] ? 1 : 0;
    }

    public long value(int ladder, int k, int part) {
        Ladder asked = now.findLadder(ladder);
        if (asked == null) {
            return NO;
        }
        if (k == -1) {
            return asked.ending == LOSSY ? tell(asked.loss, part) : NO;
        }
        return asked.has(k) ? tell(asked.values[k], part) : NO;
    }

    public int multiply(int ladder) {
        Ladder from = now.findLadder(ladder);
        if (from == null) {
            return BAD;
        }
        Ratio made = now.freeRatio();
        if (made == null) {
            return FULL;
        }
        if (!made.becomeMultipliedOut(from)) {
            return WIDE;
        }
        return made.hasZeroPoly() ? NOT : now.addRatio();
    }

    public int close(int ladder, int end, int num, int den) {
        Ladder changed = now.findLadder(ladder);
        if (changed == null || !isWithin(end, SHORT, LOSSY)) {
            return BAD;
        }
        if (end == LOSSY && !isTold(num, den)) {
            return BAD;
        }
        int had = changed.ending;
        changed.endWith(end, end == LOSSY ? Fractions.of(num, den) : Fractions.ZERO);
        return had;
    }

    public int scale(int ladder, int wNum, int wDen, int rNum, int rDen) {
        Ladder from = now.findLadder(ladder);
        if (from == null || !isTold(wNum, wDen) || !isTold(rNum, rDen)) {
            return BAD;
        }
        Ladder made = now.freeLadder();
        if (made == null) {
            return FULL;
        }
        boolean fits = made.becomeScaled(from, Fractions.of(wNum, wDen), Fractions.of(rNum, rDen));
        return fits ? now.addLadder() : WIDE;
    }

    public int band(int ladder, int mNum, int mDen, int bNum, int bDen) {
        Ladder from = now.findLadder(ladder);
        if (from == null || !isTold(mNum, mDen) || !isTold(bNum, bDen)) {
            return BAD;
        }
        Ladder made = now.freeLadder();
        if (made == null) {
            return FULL;
        }
        int refusal = from.refuseToWiden();
        if (refusal != FINE) {
            return refusal;
        }
        boolean fits = made.becomeBanded(from, Fractions.of(mNum, mDen), Fractions.of(bNum, bDen));
        return fits ? now.addLadder() : WIDE;
    }

    public int dull(int ladder, int num, int den) {
        Ladder from = now.findLadder(ladder);
        if (from == null || !isTold(num, den)) {
            return BAD;
        }
        Ladder made = now.freeLadder();
        if (made == null) {
            return FULL;
        }
        int refusal = from.refuseToWiden();
        if (refusal != FINE) {
            return refusal;
        }
        return made.becomeDulled(from, Fractions.of(num, den)) ? now.addLadder() : WIDE;
    }

    public int turn(int ladder) {
        Ladder from = now.findLadder(ladder);
        if (from == null) {
            return BAD;
        }
        Ladder made = now.freeLadder();
        if (made == null) {
            return FULL;
        }
        made.becomeTurned(from);
        return now.addLadder();
    }

    public int fit(int ladder) {
        Ladder from = now.findLadder(ladder);
        if (from == null) {
            return BAD;
        }
        Ladder made = now.freeLadder();
        if (made == null) {
            return FULL;
        }
        return made.becomeFitted(from, now.bins) ? now.addLadder() : NOT;
    }

    public int forget(int what) {
        if (!isWithin(what, 0, 1)) {
            return BAD;
        }
        return what == 0 ? now.forgetRatios() : now.forgetLadders();
    }

    // ---- worth, reactance

    public long worth(int ladder, int num, int den, int part) {
        Ladder asked = now.findLadder(ladder);
        if (asked == null || !isTold(num, den)) {
            return NO;
        }
        return tell(asked.worthAt(Fractions.of(num, den)), part);
    }

    public long react(int ladder, int num, int den, int part) {
        Ladder asked = now.findLadder(ladder);
        if (asked == null || !isTold(num, den) || !asked.isLossless()) {
            return NO;
        }
        return tell(asked.reactanceAt(Fractions.of(num, den)), part);
    }

    public int first(int ladder, int what) {
        Ladder asked = now.findLadder(ladder);
        if (asked == null || !isWithin(what, 0, 2)) {
            return BAD;
        }
        if (!asked.isLossless()) {
            return STATE;
        }
        for (int w = 1; w <= LAST_FREQUENCY; w++) {
            long z = asked.reactanceAt(Fractions.of(w, 1));
            if (Fractions.isWide(z)) {
                return WIDE;
            }
            if (isReactanceOfKind(z, what)) {
                return w;
            }
        }
        return NOT;
    }

    // ---- the store

    public int stock(int sort, int num, int den, int count, int price) {
        if (!isSort(sort) || !isTold(num, den)) {
            return BAD;
        }
        if (!isWithin(count, 0, MOST_COUNT) || !isWithin(price, 1, MOST_PRICE)) {
            return BAD;
        }
        Bins bins = now.bins[sort];
        return bins.store(Fractions.of(num, den), count, price) ? bins.size : FULL;
    }

    public int bin(int sort, int k, int what) {
        if (!isSort(sort) || !isWithin(what, 0, 3) || k < 0) {
            return BAD;
        }
        Bins bins = now.bins[sort];
        if (k >= bins.size) {
            return NOT;
        }
        switch (what) {
            case 0:
                return bins.counts[k];
            case 1:
                return bins.prices[k];
            case 2:
                return Fractions.above(bins.values[k]);
            default:
                return Fractions.below(bins.values[k]);
        }
    }

    public long nearest(int sort, int num, int den, int part) {
        if (!isSort(sort) || !isTold(num, den)) {
            return NO;
        }
        Bins bins = now.bins[sort];
        int k = bins.findNearest(Fractions.of(num, den));
        return k < 0 ? NO : tell(bins.values[k], part);
    }

    public int build(int ladder, int urgency) {
        Ladder asked = now.findLadder(ladder);
        if (asked == null || !isWithin(urgency, 0, MOST_URGENCY)) {
            return BAD;
        }
        int coming = now.countLacking(asked);
        if (now.wants.size + coming > MOST_WANTS) {
            return FULL;
        }
        now.spendOn(asked, urgency);
        return coming;
    }

    public int arrive(int n) {
        return isWithin(n, 1, MOST_WANTS) ? now.wants.removeFirst(n) : BAD;
    }

    public int want(int k, int what) {
        if (k < 0 || !isWithin(what, 0, 4)) {
            return BAD;
        }
        Wants wants = now.wants;
        if (k >= wants.size) {
            return NOT;
        }
        switch (what) {
            case 0:
                return wants.sorts[k];
            case 1:
                return wants.urgencies[k];
            case 2:
                return wants.numbers[k];
            case 3:
                return Fractions.above(wants.values[k]);
            default:
                return Fractions.below(wants.values[k]);
        }
    }

    public int cost(int ladder) {
        Ladder asked = now.findLadder(ladder);
        return asked == null ? BAD : now.priceOf(asked);
    }

    public long unlike(int sort, int k, int part) {
        if (!isSort(sort) || k < -1 || !isWithin(part, 0, 1)) {
            return NO;
        }
        if (k == -1) {
            return now.countUnlike(sort);
        }
        long found = now.findUnlike(sort, k);
        return found == Fractions.ZERO ? NO : tell(found, part);
    }

    // ---- holders, the image

    public int hold(int h, int ladder, int k) {
        Holder holder = findHolder(h);
        Ladder from = now.findLadder(ladder);
        if (holder == null || from == null || !from.has(k)) {
            return BAD;
        }
        holder.takePart(from.sorts[k], from.shunts[k], from.values[k]);
        return holder.sort;
    }

    public int drop(int h) {
        Holder holder = findHolder(h);
        if (holder == null) {
            return BAD;
        }
        int held = holder.content;
        holder.content = HOLDS_NOTHING;
        return held;
    }

    public int taken(int h, int kind) {
        Holder holder = findHolder(h);
        if (holder == null || !isWithin(kind, 0, 3)) {
            return BAD;
        }
        if (holder.content == HOLDS_NOTHING) {
            return NOTHING_THERE;
        }
        return holder.isOfKind(kind) ? holder.tellAs(kind) : OTHER_KIND;
    }

    public int row(int h, int n) {
        Holder holder = findHolder(h);
        if (holder == null || n > MOST_ROW) {
            return BAD;
        }
        if (n < 0) {
            return SIZE_BELOW_NOTHING;
        }
        holder.takeRow(n);
        return n;
    }

    public int put(int h, int i, long v) {
        Holder holder = findHolder(h);
        if (holder == null) {
            return BAD;
        }
        if (holder.content != HOLDS_ROW) {
            return holder.tellNoRow();
        }
        if (!isWithin(i, 0, holder.size - 1)) {
            return NO_SUCH_PLACE;
        }
        holder.numbers[i] = v;
        return 1;
    }

    public long get(int h, int i) {
        Holder holder = findHolder(h);
        if (holder == null || holder.content != HOLDS_ROW || !isWithin(i, 0, holder.size - 1)) {
            return NO;
        }
        return holder.numbers[i];
    }

    public int copy(int h, int i, int g, int j, int n) {
        Holder from = findHolder(h);
        Holder to = findHolder(g);
        if (from == null || to == null) {
            return BAD;
        }
        if (from.content == HOLDS_NOTHING || to.content == HOLDS_NOTHING) {
            return NOTHING_THERE;
        }
        if (from.content != HOLDS_ROW || to.content != HOLDS_ROW) {
            return OTHER_KIND;
        }
        if (!from.hasStretch(i, n) || !to.hasStretch(j, n)) {
            return NO_SUCH_PLACE;
        }
        System.arraycopy(from.numbers, i, to.numbers, j, n);
        return n;
    }

    public int judge(int h, int ladder) {
        Holder holder = findHolder(h);
        Ladder asked = now.findLadder(ladder);
        if (holder == null || asked == null) {
            return BAD;
        }
        return holder.content == HOLDS_ROW ? holder.judgeBy(asked) : holder.tellNoRow();
    }

    public int image() {
        kept.become(now);
        isKept = true;
        return now.ladderCount;
    }

    public int undo() {
        if (!isKept) {
            return STATE;
        }
        now.become(kept);
        return now.ladderCount;
    }

    public int count(int what) {
        switch (what) {
            case 0:
                return tape.size;
            case 1:
                return now.ratioCount;
            case 2:
                return now.ladderCount;
            case 3:
                return now.wants.size;
            case 4:
                return now.spent;
            case 5:
                return now.wants.ever;
            case 6:
            case 7:
            case 8:
                return now.bins[what - 6].size;
            default:
                return BAD;
        }
    }

    // ---- what the calls share

    private static boolean isWithin(int number, int least, int greatest) {
        return number >= least && number <= greatest;
    }

    private static boolean isTold(int num, int den) {
        return isWithin(num, 1, MOST_TOLD) && isWithin(den, 1, MOST_TOLD);
    }

    private static boolean isSort(int sort) {
        return isWithin(sort, 0, SORTS - 1);
    }

    private static long tell(long fraction, int part) {
        if (Fractions.isWide(fraction) || !isWithin(part, 0, 1)) {
            return NO;
        }
        return part == 0 ? Fractions.above(fraction) : Fractions.below(fraction);
    }

    private static boolean isReactanceOfKind(long z, int what) {
        if (what == 1) {
            return z == Fractions.INFINITE;
        }
        return what == 0 ? z == Fractions.ZERO : Fractions.above(z) < 0;
    }

    private Holder findHolder(int h) {
        return isWithin(h, 0, HOLDERS - 1) ? holders[h] : null;
    }

    /**
     * Fractions in lowest terms. Each is one long, the number above the line in its upper half and
     * that below in its lower half, so that working with them makes no objects. Nothing but WIDE and
     * INFINITE has 0 below the line; what is worked out of WIDE is WIDE again.
     */
    private static final class Fractions {
        static final long GREAT = 1000000000L;
        static final long LOWER_HALF = 0xFFFFFFFFL;
        static final long ZERO = 1L;
        static final long ONE = (1L << 32) | 1L;
        static final long INFINITE = 1L << 32;
        static final long TOO_WIDE = -1L << 32;
        // Euclid's steps on numbers below 2^63 are fewer than 93
        static final int MOST_STEPS = 100;

        static long of(long above, long below) {
            if (below == 0) {
                return TOO_WIDE;
            }
            long divisor = findCommonDivisor(Math.abs(above), Math.abs(below));
            if (divisor == 0) {
                return TOO_WIDE;
            }
            long num = (below < 0 ? -above : above) / divisor;
            long den = Math.abs(below) / divisor;
            if (Math.abs(num) > GREAT || den > GREAT) {
                return TOO_WIDE;
            }
            return (num << 32) | den;
        }

        static long findCommonDivisor(long one, long other) {
            long a = one;
            long b = other;
            for (int step = 0; step < MOST_STEPS && b != 0; step++) {
                long rest = a % b;
                a = b;
                b = rest;
            }
            return a;
        }

        static int above(long fraction) {
            return (int) (fraction >> 32);
        }

        static int below(long fraction) {
            return (int) (fraction & LOWER_HALF);
        }

        static boolean isWide(long fraction) {
            return fraction == TOO_WIDE;
        }

        // The halves are at most GREAT, so that no product or sum of two products leaves a long.
        static long sum(long a, long b) {
            long belowA = below(a);
            long belowB = below(b);
            return of(above(a) * belowB + above(b) * belowA, belowA * belowB);
        }

        static long difference(long a, long b) {
            long belowA = below(a);
            long belowB = below(b);
            return of(above(a) * belowB - above(b) * belowA, belowA * belowB);
        }

        static long product(long a, long b) {
            return of((long) above(a) * above(b), (long) below(a) * below(b));
        }

        static long quotient(long a, long b) {
            if (below(b) == 0) {
                return TOO_WIDE;
            }
            return of((long) above(a) * below(b), (long) below(a) * above(b));
        }

        static long reciprocal(long a) {
            return below(a) == 0 ? TOO_WIDE : of(below(a), above(a));
        }

        static long negative(long a) {
            return difference(ZERO, a);
        }

        static int compare(long a, long b) {
            return Long.compare((long) above(a) * below(b), (long) above(b) * below(a));
        }
    }

    /** A polynomial of s, a coefficient for each power. */
    private static final class Poly {
        final long[] coefficients = new long[MOST_POWER + 1];

        Poly() {
            clear();
        }

        void clear() {
            for (int p = 0; p <= MOST_POWER; p++) {
                coefficients[p] = Fractions.ZERO;
            }
        }

        void become(Poly other) {
            for (int p = 0; p <= MOST_POWER; p++) {
                coefficients[p] = other.coefficients[p];
            }
        }

        long at(int power) {
            return isWithin(power, 0, MOST_POWER) ? coefficients[power] : Fractions.ZERO;
        }

        int highest() {
            for (int p = MOST_POWER; p >= 0; p--) {
                if (coefficients[p] != Fractions.ZERO) {
                    return p;
                }
            }
            return -1;
        }

        int lowest() {
            for (int p = 0; p <= MOST_POWER; p++) {
                if (coefficients[p] != Fractions.ZERO) {
                    return p;
                }
            }
            return -1;
        }

        boolean isZero() {
            return highest() < 0;
        }

        /** Adds another one times a factor, its powers raised; false: it became too wide. */
        boolean addTimes(Poly other, long factor, int raised) {
            for (int p = 0; p <= MOST_POWER; p++) {
                long more = Fractions.product(factor, other.at(p - raised));
                coefficients[p] = Fractions.sum(coefficients[p], more);
                if (Fractions.isWide(coefficients[p])) {
                    return false;
                }
            }
            return true;
        }

        /** Multiplies by a factor and raises the powers; false: it became too wide. */
        boolean growTimes(long factor, int raised) {
            for (int p = MOST_POWER; p >= 0; p--) {
                coefficients[p] = Fractions.product(factor, at(p - raised));
                if (Fractions.isWide(coefficients[p])) {
                    return false;
                }
            }
            return true;
        }

        boolean divideByPowers(long w) {
            for (int p = 0; p <= MOST_POWER; p++) {
                for (int times = 0; times < p; times++) {
                    coefficients[p] = Fractions.quotient(coefficients[p], w);
                }
                if (Fractions.isWide(coefficients[p])) {
                    return false;
                }
            }
            return true;
        }

        boolean moveBy(long d) {
            int g = highest();
            for (int j = 0; j < g; j++) {
                for (int i = g - 1; i >= j; i--) {
                    long more = Fractions.product(d, at(i + 1));
                    coefficients[i] = Fractions.sum(coefficients[i], more);
                    if (Fractions.isWide(coefficients[i])) {
                        return false;
                    }
                }
            }
            return true;
        }
    }

    /** Two polynomials; the calls that make a new one answer false if it became too wide. */
    private static final class Ratio {
        final Poly above = new Poly();
        final Poly below = new Poly();

        void become(Ratio other) {
            above.become(other.above);
            below.become(other.below);
        }

        boolean hasZeroPoly() {
            return above.isZero() || below.isZero();
        }

        int tellWhetherSame(Ratio other) {
            for (int p = 0; p <= 2 * MOST_POWER; p++) {
                long one = sumOfProducts(above, other.below, p);
                long two = sumOfProducts(other.above, below, p);
                if (Fractions.isWide(one) || Fractions.isWide(two)) {
                    return WIDE;
                }
                if (one != two) {
                    return 0;
                }
            }
            return 1;
        }

        static long sumOfProducts(Poly x, Poly y, int power) {
            long sum = Fractions.ZERO;
            for (int i = 0; i <= MOST_POWER; i++) {
                sum = Fractions.sum(sum, Fractions.product(x.at(i), y.at(power - i)));
            }
            return sum;
        }

        boolean becomeScaled(Ratio from, long w, long r) {
            become(from);
            return above.divideByPowers(w) && below.divideByPowers(w) && above.growTimes(r, 0);
        }

        boolean becomeShifted(Ratio from, long d) {
            become(from);
            return above.moveBy(d) && below.moveBy(d);
        }

        boolean becomeMultipliedOut(Ladder from) {
            above.clear();
            below.clear();
            if (from.ending != SHORT) {
                above.coefficients[0] = from.ending == LOSSY ? from.loss : Fractions.ONE;
            }
            if (from.ending != OPEN) {
                below.coefficients[0] = Fractions.ONE;
            }
            for (int k = from.size - 1; k >= 0; k--) {
                if (!takeIn(from.sorts[k], from.shunts[k], from.values[k])) {
                    return false;
                }
            }
            return true;
        }

        // A SHUNT PART does to BELOW what its counterpart does to ABOVE as a SERIES one.
        private boolean takeIn(int sort, boolean shunt, long v) {
            Poly near = shunt ? below : above;
            Poly far = shunt ? above : below;
            int raised = sort == RESISTOR ? 0 : 1;
            if (Ladder.isRising(sort, shunt) || (sort == RESISTOR && !shunt)) {
                return near.addTimes(far, v, raised);
            }
            return near.growTimes(v, raised) && near.addTimes(far, Fractions.ONE, 0)
                    && far.growTimes(v, raised);
        }
    }

    /** Parts in a row and an end; the calls that make a new one of another's parts begin anew. */
    private static final class Ladder {
        final int[] sorts = new int[MOST_PARTS];
        final boolean[] shunts = new boolean[MOST_PARTS];
        final long[] values = new long[MOST_PARTS];
        int size = 0;
        int ending = SHORT;
        long loss = Fractions.ZERO;

        /** Whether its series resistance, or shunt conductance, rises with the frequency. */
        static boolean isRising(int sort, boolean shunt) {
            return sort == (shunt ? CONDENSER : COIL);
        }

        boolean has(int k) {
            return isWithin(k, 0, size - 1);
        }

        void addPart(int sort, boolean shunt, long v) {
            if (size < MOST_PARTS) {
                sorts[size] = sort;
                shunts[size] = shunt;
                values[size] = v;
                size++;
            }
        }

        void endWith(int newEnding, long newLoss) {
            ending = newEnding;
            loss = newLoss;
        }

        void beginLike(Ladder from) {
            size = 0;
            endWith(from.ending, from.loss);
        }

        void become(Ladder from) {
            beginLike(from);
            for (int k = 0; k < from.size; k++) {
                addPart(from.sorts[k], from.shunts[k], from.values[k]);
            }
        }

        boolean becomeScaled(Ladder from, long w, long r) {
            beginLike(from);
            for (int k = 0; k < from.size; k++) {
                long v = scaleValue(from.sorts[k], from.values[k], w, r);
                if (Fractions.isWide(v)) {
                    return false;
                }
                addPart(from.sorts[k], from.shunts[k], v);
            }
            if (ending == LOSSY) {
                loss = Fractions.product(loss, r);
            }
            return !Fractions.isWide(loss);
        }

        private static long scaleValue(int sort, long v, long w, long r) {
            if (sort == RESISTOR) {
                return Fractions.product(v, r);
            }
            long weighed = sort == COIL ? Fractions.product(v, r) : Fractions.quotient(v, r);
            return Fractions.quotient(weighed, w);
        }

        int refuseToWiden() {
            if (!canBeWidened()) {
                return STATE;
            }
            return size + countReactive() > MOST_PARTS ? TOO_MANY_PARTS : FINE;
        }

        private boolean canBeWidened() {
            for (int k = 0; k < size; k++) {
                if (sorts[k] != RESISTOR && !isRising(sorts[k], shunts[k])) {
                    return false;
                }
            }
            return true;
        }

        int countReactive() {
            int found = 0;
            for (int k = 0; k < size; k++) {
                if (sorts[k] != RESISTOR) {
                    found++;
                }
            }
            return found;
        }

        boolean becomeBanded(Ladder from, long m, long b) {
            beginLike(from);
            for (int k = 0; k < from.size; k++) {
                int sort = from.sorts[k];
                boolean shunt = from.shunts[k];
                long v = from.values[k];
                if (sort == RESISTOR) {
                    addPart(sort, shunt, v);
                    continue;
                }
                long wider = Fractions.quotient(v, b);
                long behind = Fractions.quotient(Fractions.quotient(b, v), m);
                if (Fractions.isWide(wider) || Fractions.isWide(behind)) {
                    return false;
                }
                addPart(sort, shunt, wider);
                addPart(shunt ? COIL : CONDENSER, shunt, behind);
            }
            return true;
        }

        boolean becomeDulled(Ladder from, long d) {
            beginLike(from);
            for (int k = 0; k < from.size; k++) {
                boolean shunt = from.shunts[k];
                addPart(from.sorts[k], shunt, from.values[k]);
                if (from.sorts[k] == RESISTOR) {
                    continue;
                }
                long dulling = Fractions.product(from.values[k], d);
                if (Fractions.isWide(dulling)) {
                    return false;
                }
                addPart(RESISTOR, shunt, shunt ? Fractions.reciprocal(dulling) : dulling);
            }
            return true;
        }

        void becomeTurned(Ladder from) {
            beginLike(from);
            for (int k = from.size - 1; k >= 0; k--) {
                addPart(from.sorts[k], from.shunts[k], from.values[k]);
            }
        }

        /** False: there is no bin for the sort of a part. */
        boolean becomeFitted(Ladder from, Bins[] store) {
            beginLike(from);
            for (int k = 0; k < from.size; k++) {
                Bins bins = store[from.sorts[k]];
                int found = bins.findNearest(from.values[k]);
                if (found < 0) {
                    return false;
                }
                addPart(from.sorts[k], from.shunts[k], bins.values[found]);
            }
            return true;
        }

        boolean isLossless() {
            return ending != LOSSY && countReactive() == size;
        }

        private long worthOfEnd() {
            if (ending == LOSSY) {
                return loss;
            }
            return ending == SHORT ? Fractions.ZERO : Fractions.INFINITE;
        }

        long worthAt(long x) {
            return workOut(x, false);
        }

        /** To be asked for a lossless ladder only. */
        long reactanceAt(long w) {
            return workOut(w, true);
        }

        private long workOut(long point, boolean isReactance) {
            long z = worthOfEnd();
            for (int k = size - 1; k >= 0; k--) {
                long t = isReactance ? reactanceOfPart(k, point) : worthOfPart(k, point);
                // a part refuses the call even where what stands behind it makes it needless
                if (Fractions.isWide(t)) {
                    return t;
                }
                z = shunts[k] ? addShunt(z, t, isReactance) : addSeries(z, t);
                if (Fractions.isWide(z)) {
                    return z;
                }
            }
            return z;
        }

        private long worthOfPart(int k, long x) {
            if (sorts[k] == RESISTOR) {
                return shunts[k] ? Fractions.reciprocal(values[k]) : values[k];
            }
            long t = Fractions.product(values[k], x);
            return isRising(sorts[k], shunts[k]) ? t : Fractions.reciprocal(t);
        }

        private long reactanceOfPart(int k, long w) {
            long t = Fractions.product(w, values[k]);
            return isRising(sorts[k], shunts[k]) ? t : Fractions.negative(Fractions.reciprocal(t));
        }

        private static long addSeries(long z, long t) {
            return z == Fractions.INFINITE ? z : Fractions.sum(z, t);
        }

        private static long addShunt(long z, long t, boolean isReactance) {
            if (z == Fractions.ZERO) {
                return z;
            }
            // nothing goes on through what is INFINITE
            long through = z == Fractions.INFINITE ? Fractions.ZERO : Fractions.reciprocal(z);
            if (!isReactance) {
                return Fractions.reciprocal(Fractions.sum(through, t));
            }
            long u = Fractions.difference(t, through);
            return u == Fractions.ZERO ? Fractions.INFINITE : Fractions.negative(Fractions.reciprocal(u));
        }
    }

    /** Divides one poly of a ratio by the other, again and again, into the parts of a ladder. */
    private static final class Divider {
        private Poly a = new Poly();
        private Poly b = new Poly();
        private boolean shunt = false;
        private boolean fromHighest = true;

        int work(Ratio from, int form, Ladder made) {
            a.become(from.above);
            b.become(from.below);
            shunt = false;
            fromHighest = form == 0;
            made.size = 0;
            for (int come = 0; come <= MOST_PARTS; come++) {
                int answer = makePart(made);
                if (answer != GOES_ON) {
                    return answer;
                }
            }
            return TOO_MANY_PARTS;
        }

        private int makePart(Ladder made) {
            if (reach(a) < reach(b)) {
                changePlaces();
            }
            int h = reach(a) - reach(b);
            if (h >= 2) {
                return STEP_TOO_GREAT - made.size;
            }
            if (made.size >= MOST_PARTS) {
                return TOO_MANY_PARTS;
            }
            long q = Fractions.quotient(leader(a), leader(b));
            if (Fractions.isWide(q)) {
                return WIDE;
            }
            if (Fractions.above(q) < 0) {
                return PART_BELOW_NOTHING - made.size;
            }
            addPartOf(h, q, made);
            if (!a.addTimes(b, Fractions.negative(q), fromHighest ? h : -h)) {
                return WIDE;
            }
            if (!a.isZero()) {
                return GOES_ON;
            }
            made.endWith(shunt ? OPEN : SHORT, Fractions.ZERO);
            return FINE;
        }

        // Turned round, the least powers are the greatest: so one way of dividing serves both forms.
        private int reach(Poly poly) {
            return fromHighest ? poly.highest() : -poly.lowest();
        }

        private long leader(Poly poly) {
            return poly.at(fromHighest ? poly.highest() : poly.lowest());
        }

        private void addPartOf(int h, long q, Ladder made) {
            if (h == 0) {
                made.addPart(RESISTOR, shunt, shunt ? Fractions.reciprocal(q) : q);
            } else if (fromHighest) {
                made.addPart(shunt ? CONDENSER : COIL, shunt, q);
            } else {
                made.addPart(shunt ? COIL : CONDENSER, shunt, Fractions.reciprocal(q));
            }
        }

        private void changePlaces() {
            Poly other = a;
            a = b;
            b = other;
            shunt = !shunt;
        }
    }

    /**
     * The bytes that were fed, and the reading of their texts. Each byte is looked at before it is
     * passed, and one look tells whether a text can go on with it: so where reading stops, place is
     * the text's fault.
     */
    private static final class Tape {
        static final int MOST_DIGITS = 4;
        private final int[] bytes = new int[MOST_BYTES];
        int size = 0;
        int place = 0;
        private long number = 0;
        private long fraction = Fractions.ZERO;

        void append(int b) {
            if (size < MOST_BYTES) {
                bytes[size] = b;
                size++;
            }
        }

        int empty() {
            int had = size;
            size = 0;
            return had;
        }

        boolean readRatio(Ratio made) {
            place = 0;
            return readPoly(made.above) && pass('/') && readPoly(made.below) && place == size;
        }

        boolean readLadder(Ladder made) {
            place = 0;
            made.size = 0;
            return readParts(made) && pass(';') && readEnd(made) && place == size;
        }

        private int look() {
            return place < size ? bytes[place] : -1;
        }

        private boolean pass(char sign) {
            if (look() != sign) {
                return false;
            }
            place++;
            return true;
        }

        private static boolean isDigit(int sign) {
            return sign >= '0' && sign <= '9';
        }

        private boolean readPoly(Poly made) {
            made.clear();
            boolean isNegative = pass('-');
            for (int terms = 0; terms <= MOST_BYTES; terms++) {
                if (!readTerm(made, isNegative)) {
                    return false;
                }
                isNegative = look() == '-';
                if (!pass('+') && !pass('-')) {
                    return true;
                }
            }
            return false;
        }

        private boolean readTerm(Poly made, boolean isNegative) {
            number = 1;
            if (look() != 's' && !readNumber()) {
                return false;
            }
            int power = 0;
            if (pass('s')) {
                power = 1;
                if (isDigit(look())) {
                    power = look() - '0';
                    place++;
                }
            }
            long more = Fractions.of(isNegative ? -number : number, 1);
            made.coefficients[power] = Fractions.sum(made.coefficients[power], more);
            return true;
        }

        private boolean readNumber() {
            if (!isDigit(look()) || look() == '0') {
                return false;
            }
            number = 0;
            for (int digits = 0; digits < MOST_DIGITS && isDigit(look()); digits++) {
                number = 10 * number + look() - '0';
                place++;
            }
            return true;
        }

        private boolean readFraction() {
            if (!readNumber()) {
                return false;
            }
            long above = number;
            number = 1;
            if (pass('/') && !readNumber()) {
                return false;
            }
            fraction = Fractions.of(above, number);
            return true;
        }

        private boolean readParts(Ladder made) {
            for (int come = 1; come <= MOST_PARTS; come++) {
                if (!readPart(made)) {
                    return false;
                }
                // the sign ahead of a 13th part is left where it is: there the fault is
                if (come == MOST_PARTS || !pass(',')) {
                    return true;
                }
            }
            return true;
        }

        private boolean readPart(Ladder made) {
            int sort = sortOf(look());
            if (sort < 0) {
                return false;
            }
            boolean shunt = look() < 'a';
            place++;
            if (!readFraction()) {
                return false;
            }
            made.addPart(sort, shunt, fraction);
            return true;
        }

        private static int sortOf(int sign) {
            switch (sign) {
                case 'l':
                case 'L':
                    return COIL;
                case 'c':
                case 'C':
                    return CONDENSER;
                case 'r':
                case 'R':
                    return RESISTOR;
                default:
                    return -1;
            }
        }

        private boolean readEnd(Ladder made) {
            if (pass('s')) {
                made.endWith(SHORT, Fractions.ZERO);
                return true;
            }
            if (pass('o')) {
                made.endWith(OPEN, Fractions.ZERO);
                return true;
            }
            if (!pass('r') || !readFraction()) {
                return false;
            }
            made.endWith(LOSSY, fraction);
            return true;
        }
    }

    /** The bins of one sort, the least value first. */
    private static final class Bins {
        final long[] values = new long[MOST_BINS];
        final int[] counts = new int[MOST_BINS];
        final int[] prices = new int[MOST_BINS];
        int size = 0;

        void become(Bins other) {
            size = other.size;
            for (int k = 0; k < size; k++) {
                setBin(k, other.values[k], other.counts[k], other.prices[k]);
            }
        }

        private void setBin(int k, long v, int newCount, int newPrice) {
            if (isWithin(k, 0, MOST_BINS - 1)) {
                values[k] = v;
                counts[k] = newCount;
                prices[k] = newPrice;
            }
        }

        /** False: there is no room for one more. */
        boolean store(long v, int newCount, int newPrice) {
            int k = find(v);
            if (k < 0) {
                if (size >= MOST_BINS) {
                    return false;
                }
                k = makeRoomFor(v);
            }
            setBin(k, v, newCount, newPrice);
            return true;
        }

        private int makeRoomFor(long v) {
            int k = size;
            while (k > 0 && Fractions.compare(values[k - 1], v) > 0) {
                setBin(k, values[k - 1], counts[k - 1], prices[k - 1]);
                k--;
            }
            size++;
            return k;
        }

        int find(long v) {
            for (int k = 0; k < size; k++) {
                if (values[k] == v) {
                    return k;
                }
            }
            return -1;
        }

        int findNearest(long v) {
            int found = size > 0 ? 0 : -1;
            for (int k = 1; k < size; k++) {
                if (isNearer(values[k], values[found], v)) {
                    found = k;
                }
            }
            return found;
        }

        // A bin's halves are at most MOST_TOLD: 2 * 9999 * GREAT * 9999 is well within a long.
        private static boolean isNearer(long one, long other, long v) {
            return spread(one, v) * Fractions.below(other) < spread(other, v) * Fractions.below(one);
        }

        /** How far a bin's value is from v, times what is below the line of both. */
        private static long spread(long value, long v) {
            long one = (long) Fractions.above(value) * Fractions.below(v);
            long other = (long) Fractions.above(v) * Fractions.below(value);
            return Math.abs(one - other);
        }
    }

    /** The wants by their order. */
    private static final class Wants {
        final int[] sorts = new int[MOST_WANTS];
        final long[] values = new long[MOST_WANTS];
        final int[] urgencies = new int[MOST_WANTS];
        final int[] numbers = new int[MOST_WANTS];
        int size = 0;
        int ever = 0;

        void become(Wants other) {
            size = other.size;
            ever = other.ever;
            for (int k = 0; k < size; k++) {
                take(k, other, k);
            }
        }

        private void take(int k, Wants from, int j) {
            sorts[k] = from.sorts[j];
            values[k] = from.values[j];
            urgencies[k] = from.urgencies[j];
            numbers[k] = from.numbers[j];
        }

        void add(int sort, long v, int urgency) {
            if (size >= MOST_WANTS) {
                return;
            }
            int k = size;
            while (k > 0 && isAhead(sort, v, urgency, k - 1)) {
                take(k, this, k - 1);
                k--;
            }
            sorts[k] = sort;
            values[k] = v;
            urgencies[k] = urgency;
            numbers[k] = ever;
            size++;
            ever++;
        }

        // The one that comes has the greatest number: among its likes it is the last.
        private boolean isAhead(int sort, long v, int urgency, int k) {
            if (urgency != urgencies[k]) {
                return urgency > urgencies[k];
            }
            if (sort != sorts[k]) {
                return sort < sorts[k];
            }
            return Fractions.compare(v, values[k]) > 0;
        }

        int removeFirst(int n) {
            int gone = Math.min(n, size);
            for (int k = gone; k < size; k++) {
                take(k - gone, this, k);
            }
            size -= gone;
            return gone;
        }
    }

    /**
     * All that the image keeps. A new ratio or ladder is worked in the first place that is free, and
     * counts only when it stands: so a call that is refused on the way changes nothing.
     */
    private static final class Workshop {
        final Ratio[] ratios = new Ratio[MOST_RATIOS];
        final Ladder[] ladders = new Ladder[MOST_LADDERS];
        final Bins[] bins = new Bins[SORTS];
        final Wants wants = new Wants();
        int ratioCount = 0;
        int ladderCount = 0;
        int spent = 0;

        Workshop() {
            for (int k = 0; k < MOST_RATIOS; k++) {
                ratios[k] = new Ratio();
            }
            for (int k = 0; k < MOST_LADDERS; k++) {
                ladders[k] = new Ladder();
            }
            for (int k = 0; k < SORTS; k++) {
                bins[k] = new Bins();
            }
        }

        void become(Workshop other) {
            ratioCount = other.ratioCount;
            for (int k = 0; k < ratioCount; k++) {
                ratios[k].become(other.ratios[k]);
            }
            ladderCount = other.ladderCount;
            for (int k = 0; k < ladderCount; k++) {
                ladders[k].become(other.ladders[k]);
            }
            for (int k = 0; k < SORTS; k++) {
                bins[k].become(other.bins[k]);
            }
            wants.become(other.wants);
            spent = other.spent;
        }

        Ratio findRatio(int number) {
            return isWithin(number, 0, ratioCount - 1) ? ratios[number] : null;
        }

        Ladder findLadder(int number) {
            return isWithin(number, 0, ladderCount - 1) ? ladders[number] : null;
        }

        Ratio freeRatio() {
            return ratioCount < MOST_RATIOS ? ratios[ratioCount] : null;
        }

        Ladder freeLadder() {
            return ladderCount < MOST_LADDERS ? ladders[ladderCount] : null;
        }

        int addRatio() {
            ratioCount++;
            return ratioCount - 1;
        }

        int addLadder() {
            ladderCount++;
            return ladderCount - 1;
        }

        int forgetRatios() {
            int had = ratioCount;
            ratioCount = 0;
            return had;
        }

        int forgetLadders() {
            int had = ladderCount;
            ladderCount = 0;
            return had;
        }

        /** How many wants would come; told ahead, as a refused build takes nothing from the bins. */
        int countLacking(Ladder asked) {
            int lacking = 0;
            for (int k = 0; k < asked.size; k++) {
                int found = bins[asked.sorts[k]].find(asked.values[k]);
                if (found < 0 || bins[asked.sorts[k]].counts[found] <= countLikeAhead(asked, k)) {
                    lacking++;
                }
            }
            return lacking;
        }

        private static int countLikeAhead(Ladder asked, int k) {
            int like = 0;
            for (int j = 0; j < k; j++) {
                if (asked.sorts[j] == asked.sorts[k] && asked.values[j] == asked.values[k]) {
                    like++;
                }
            }
            return like;
        }

        void spendOn(Ladder asked, int urgency) {
            for (int k = 0; k < asked.size; k++) {
                Bins store = bins[asked.sorts[k]];
                int found = store.find(asked.values[k]);
                if (found >= 0 && store.counts[found] > 0) {
                    store.counts[found]--;
                    spent += store.prices[found];
                } else {
                    wants.add(asked.sorts[k], asked.values[k], urgency);
                }
            }
        }

        int priceOf(Ladder asked) {
            int sum = 0;
            for (int k = 0; k < asked.size; k++) {
                Bins store = bins[asked.sorts[k]];
                int found = store.find(asked.values[k]);
                if (found < 0) {
                    return NOT;
                }
                sum += store.prices[found];
            }
            return sum;
        }

        int countUnlike(int sort) {
            int found = 0;
            long last = greatestBelow(sort, Fractions.INFINITE);
            while (found < MOST_LADDERS * MOST_PARTS && last != Fractions.ZERO) {
                found++;
                last = greatestBelow(sort, last);
            }
            return found;
        }

        /** Number k of the unlike values, the greatest being number 0; ZERO: there is none. */
        long findUnlike(int sort, int k) {
            long last = greatestBelow(sort, Fractions.INFINITE);
            for (int passed = 0; passed < k && last != Fractions.ZERO; passed++) {
                last = greatestBelow(sort, last);
            }
            return last;
        }

        // All values are above 0, so ZERO can tell that there is none.
        private long greatestBelow(int sort, long limit) {
            long greatest = Fractions.ZERO;
            for (int n = 0; n < ladderCount; n++) {
                Ladder from = ladders[n];
                for (int k = 0; k < from.size; k++) {
                    long v = from.values[k];
                    if (from.sorts[k] == sort && Fractions.compare(v, limit) < 0
                            && Fractions.compare(v, greatest) > 0) {
                        greatest = v;
                    }
                }
            }
            return greatest;
        }
    }

    /** What a holder holds: nothing, a part as it was, or a row. */
    private static final class Holder {
        final long[] numbers = new long[MOST_ROW];
        int content = HOLDS_NOTHING;
        int size = 0;
        int sort = COIL;
        boolean shunt = false;
        long v = Fractions.ZERO;

        int tellNoRow() {
            return content == HOLDS_NOTHING ? NOTHING_THERE : OTHER_KIND;
        }

        void takePart(int newSort, boolean newShunt, long newValue) {
            content = HOLDS_PART;
            sort = newSort;
            shunt = newShunt;
            v = newValue;
        }

        void takeRow(int n) {
            content = HOLDS_ROW;
            size = Math.max(0, Math.min(n, MOST_ROW));
            for (int k = 0; k < size; k++) {
                numbers[k] = 0;
            }
        }

        /** Kind 0 is any part, 1 to 3 are parts of the sorts 0 to 2. */
        boolean isOfKind(int kind) {
            return content == HOLDS_PART && (kind == 0 || kind == sort + 1);
        }

        int tellAs(int kind) {
            switch (kind) {
                case 0:
                    return 10 * sort + (shunt ? 1 : 0);
                case 1:
                    return Fractions.above(v);
                case 2:
                    return Fractions.below(v);
                default:
                    return Fractions.above(v) + Fractions.below(v);
            }
        }

        boolean hasStretch(int from, int n) {
            return from >= 0 && n >= 0 && from <= size && n <= size - from;
        }

        int judgeBy(Ladder asked) {
            for (int k = 0; k < asked.size; k++) {
                if (2 * k + 1 >= size || numbers[2 * k] != Fractions.above(asked.values[k])
                        || numbers[2 * k + 1] != Fractions.below(asked.values[k])) {
                    return k;
                }
            }
            return size > 2 * asked.size ? asked.size : NOT;
        }
    }
}
