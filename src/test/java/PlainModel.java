import java.math.BigInteger;
import java.util.ArrayList;
import java.util.Arrays;
import java.util.Comparator;
import java.util.List;
import java.util.TreeMap;
import java.util.TreeSet;
import java.util.regex.Matcher;
import java.util.regex.Pattern;

/**
 * The document once more, word by word and with the whole Java library: big numbers, lists, sorted maps,
 * regular expressions, and exceptions for what is WIDE. Its answers are compared with those of LadderMaker.
 */
final class PlainModel {
    private static final int BAD = -1, NOT = -2, FULL = -3, STATE = -5, WIDE = -6;
    private static final long NO = Long.MIN_VALUE;
    private static final BigInteger GREAT = BigInteger.valueOf(1000000000);

    private static final String NUMBER = "[1-9][0-9]{0,3}";
    private static final String TERM = "(?:" + NUMBER + "(?:s[0-9]?)?|s[0-9]?)";
    private static final String POLY = "-?" + TERM + "(?:[+-]" + TERM + ")*";
    private static final String VALUE = NUMBER + "(?:/" + NUMBER + ")?";
    private static final String PART = "[lcrLCR]" + VALUE;
    private static final Pattern RATIO_TEXT = Pattern.compile("(" + POLY + ")/(" + POLY + ")");
    private static final Pattern LADDER_TEXT =
            Pattern.compile("(" + PART + "(?:," + PART + "){0,11});(s|o|r" + VALUE + ")");
    private static final Pattern TERMS = Pattern.compile("([+-]?)([0-9]*)(s?)([0-9]?)");

    private static final class TooWide extends RuntimeException {
        private static final long serialVersionUID = 1;
    }

    private record Frac(BigInteger num, BigInteger den) implements Comparable<Frac> {
        static final Frac ZERO = whole(0), ONE = whole(1);
        static final Frac INFINITE = new Frac(BigInteger.ONE, BigInteger.ZERO);

        static Frac whole(long n) {
            return of(BigInteger.valueOf(n), BigInteger.ONE);
        }

        static Frac told(long n, long d) {
            return of(BigInteger.valueOf(n), BigInteger.valueOf(d));
        }

        static Frac of(BigInteger n, BigInteger d) {
            Frac f = exact(n, d);
            if (f.num.abs().compareTo(GREAT) > 0 || f.den.compareTo(GREAT) > 0) {
                throw new TooWide();
            }
            return f;
        }

        static Frac exact(BigInteger n, BigInteger d) {
            BigInteger g = n.gcd(d);
            g = d.signum() < 0 ? g.negate() : g;
            return new Frac(n.divide(g), d.divide(g));
        }

        Frac plus(Frac o) {
            return of(num.multiply(o.den).add(o.num.multiply(den)), den.multiply(o.den));
        }

        Frac minus(Frac o) {
            return of(num.multiply(o.den).subtract(o.num.multiply(den)), den.multiply(o.den));
        }

        Frac times(Frac o) {
            return of(num.multiply(o.num), den.multiply(o.den));
        }

        Frac over(Frac o) {
            return of(num.multiply(o.den), den.multiply(o.num));
        }

        boolean isZero() {
            return num.signum() == 0;
        }

        Frac awayFrom(Frac o) {
            return exact(num.multiply(o.den).subtract(o.num.multiply(den)).abs(), den.multiply(o.den));
        }

        @Override public int compareTo(Frac o) {
            return num.multiply(o.den).compareTo(o.num.multiply(den));
        }

        long tell(int part) {
            return (part == 0 ? num : den).longValueExact();
        }
    }

    private record Ratio(Frac[] above, Frac[] below) {
    }

    private record Part(int sort, boolean shunt, Frac v) {
    }

    private static final class Ladder {
        final List<Part> parts = new ArrayList<>();
        int end;
        Frac loss;

        Ladder copy() {
            Ladder c = like();
            c.parts.addAll(parts);
            return c;
        }

        Ladder like() {
            Ladder c = new Ladder();
            c.end = end;
            c.loss = loss;
            return c;
        }
    }

    private record Bin(int count, int price) {
    }

    private record Want(int sort, Frac v, int urgency, int number) {
    }

    private static final class Kept {
        List<Ratio> ratios = new ArrayList<>();
        List<Ladder> ladders = new ArrayList<>();
        List<TreeMap<Frac, Bin>> bins = new ArrayList<>();
        List<Want> wants = new ArrayList<>();
        int spent = 0;
        int ever = 0;

        Kept copy() {
            Kept c = new Kept();
            c.ratios.addAll(ratios);
            for (Ladder l : ladders) {
                c.ladders.add(l.copy());
            }
            for (TreeMap<Frac, Bin> b : bins) {
                c.bins.add(new TreeMap<>(b));
            }
            c.wants.addAll(wants);
            c.spent = spent;
            c.ever = ever;
            return c;
        }
    }

    private static final Comparator<Want> ORDER = Comparator.comparingInt((Want w) -> -w.urgency)
            .thenComparingInt(w -> w.sort).thenComparing((a, b) -> b.v.compareTo(a.v))
            .thenComparingInt(w -> w.number);

    private StringBuilder tape = new StringBuilder();
    private Kept now = new Kept();
    private Kept image = null;
    private final Object[] holders = new Object[6];

    PlainModel() {
        for (int k = 0; k < 3; k++) {
            now.bins.add(new TreeMap<>());
        }
    }

    // ---- texts

    int feed(int v, int n) {
        if (n < 1 || n > 4) {
            return BAD;
        }
        if (tape.length() + n > 100) {
            return FULL;
        }
        for (int k = n - 1; k >= 0; k--) {
            tape.append((char) (v >> 8 * k & 255));
        }
        return tape.length();
    }

    int wipe() {
        int had = tape.length();
        tape = new StringBuilder();
        return had;
    }

    /** The FAULT, or -1; a prefix can go on if the pattern matches it or ran into its end. */
    private static int fault(Pattern pattern, String text) {
        for (int n = 1; n <= text.length(); n++) {
            Matcher m = pattern.matcher(text.substring(0, n));
            if (!m.matches() && !m.hitEnd()) {
                return n - 1;
            }
        }
        return pattern.matcher(text).matches() ? -1 : text.length();
    }

    private static Frac[] zeros() {
        Frac[] poly = new Frac[13];
        Arrays.fill(poly, Frac.ZERO);
        return poly;
    }

    private static Frac[] polyOf(String text) {
        Frac[] poly = zeros();
        Matcher m = TERMS.matcher(text);
        while (m.find() && !m.group().isEmpty()) {
            Frac c = m.group(2).isEmpty() ? Frac.ONE : Frac.whole(Long.parseLong(m.group(2)));
            int power = m.group(3).isEmpty() ? 0 : m.group(4).isEmpty() ? 1 : m.group(4).charAt(0) - '0';
            poly[power] = m.group(1).equals("-") ? poly[power].minus(c) : poly[power].plus(c);
        }
        return poly;
    }

    int ratio() {
        if (now.ratios.size() == 6) {
            return FULL;
        }
        String text = tape.toString();
        wipe();
        int fault = fault(RATIO_TEXT, text);
        if (fault >= 0) {
            return -1000 - fault;
        }
        String[] polys = text.split("/");
        return addOrNot(new Ratio(polyOf(polys[0]), polyOf(polys[1])));
    }

    private int addOrNot(Ratio r) {
        if (high(r.above) < 0 || high(r.below) < 0) {
            return NOT;
        }
        now.ratios.add(r);
        return now.ratios.size() - 1;
    }

    private int add(Ladder l) {
        now.ladders.add(l);
        return now.ladders.size() - 1;
    }

    private static Frac valueOf(String text) {
        String[] two = text.split("/");
        return Frac.told(Long.parseLong(two[0]), two.length == 1 ? 1 : Long.parseLong(two[1]));
    }

    int ladder() {
        if (now.ladders.size() == 6) {
            return FULL;
        }
        String text = tape.toString();
        wipe();
        int fault = fault(LADDER_TEXT, text);
        if (fault >= 0) {
            return -1000 - fault;
        }
        String[] two = text.split(";");
        Ladder l = new Ladder();
        for (String part : two[0].split(",")) {
            int sign = "lcrLCR".indexOf(part.charAt(0));
            l.parts.add(new Part(sign % 3, sign >= 3, valueOf(part.substring(1))));
        }
        l.end = "sor".indexOf(two[1].charAt(0));
        l.loss = l.end == 2 ? valueOf(two[1].substring(1)) : null;
        return add(l);
    }

    // ---- ratios

    private static int high(Frac[] poly) {
        int p = 12;
        while (p >= 0 && poly[p].isZero()) {
            p--;
        }
        return p;
    }

    private static int low(Frac[] poly) {
        int p = 0;
        while (p <= 12 && poly[p].isZero()) {
            p++;
        }
        return p;
    }

    private boolean noRatio(int n) {
        return n < 0 || n >= now.ratios.size();
    }

    private boolean noLadder(int n) {
        return n < 0 || n >= now.ladders.size();
    }

    private static boolean notTold(int... numbers) {
        return Arrays.stream(numbers).anyMatch(n -> n < 1 || n > 9999);
    }

    private static boolean notPart(int part) {
        return part != 0 && part != 1;
    }

    int degree(int ratio, int what) {
        if (noRatio(ratio) || what < 0 || what > 3) {
            return BAD;
        }
        Frac[] poly = what < 2 ? now.ratios.get(ratio).above : now.ratios.get(ratio).below;
        return what % 2 == 0 ? high(poly) : low(poly);
    }

    long coefficient(int ratio, int side, int power, int part) {
        if (noRatio(ratio) || notPart(side) || power < 0 || power > 12 || notPart(part)) {
            return NO;
        }
        Ratio r = now.ratios.get(ratio);
        return (side == 0 ? r.above : r.below)[power].tell(part);
    }

    int same(int ratio, int other) {
        if (noRatio(ratio) || noRatio(other)) {
            return BAD;
        }
        Ratio one = now.ratios.get(ratio);
        Ratio two = now.ratios.get(other);
        try {
            for (int p = 0; p <= 24; p++) {
                if (!cross(one.above, two.below, p).equals(cross(two.above, one.below, p))) {
                    return 0;
                }
            }
            return 1;
        } catch (TooWide e) {
            return WIDE;
        }
    }

    private static Frac cross(Frac[] x, Frac[] y, int p) {
        Frac sum = Frac.ZERO;
        for (int i = Math.max(0, p - 12); i <= Math.min(p, 12); i++) {
            sum = sum.plus(x[i].times(y[p - i]));
        }
        return sum;
    }

    int divide(int ratio, int form) {
        if (noRatio(ratio) || form < 0 || form > 1) {
            return BAD;
        }
        if (now.ladders.size() == 6) {
            return FULL;
        }
        try {
            Ratio r = now.ratios.get(ratio);
            return form == 0 ? divided0(r) : divided1(r);
        } catch (TooWide e) {
            return WIDE;
        }
    }

    private int divided0(Ratio r) {
        Frac[] a = r.above.clone();
        Frac[] b = r.below.clone();
        boolean shunt = false;
        Ladder l = new Ladder();
        while (true) {
            if (high(a) < high(b)) {
                Frac[] t = a;
                a = b;
                b = t;
                shunt = !shunt;
            }
            int h = high(a) - high(b);
            if (h >= 2) {
                return -200 - l.parts.size();
            }
            if (l.parts.size() == 12) {
                return -300;
            }
            Frac q = a[high(a)].over(b[high(b)]);
            if (q.num.signum() < 0) {
                return -100 - l.parts.size();
            }
            if (h == 1) {
                l.parts.add(new Part(shunt ? 1 : 0, shunt, q));
            } else {
                l.parts.add(new Part(2, shunt, shunt ? Frac.ONE.over(q) : q));
            }
            Frac[] rest = a.clone();
            for (int p = 0; p <= 12; p++) {
                rest[p] = a[p].minus(q.times(p - h < 0 ? Frac.ZERO : b[p - h]));
            }
            a = rest;
            if (high(a) < 0) {
                l.end = shunt ? 1 : 0;
                return add(l);
            }
        }
    }

    private int divided1(Ratio r) {
        Frac[] a = r.above.clone();
        Frac[] b = r.below.clone();
        boolean shunt = false;
        Ladder l = new Ladder();
        while (true) {
            if (low(a) > low(b)) {
                Frac[] t = a;
                a = b;
                b = t;
                shunt = !shunt;
            }
            int h = low(b) - low(a);
            if (h >= 2) {
                return -200 - l.parts.size();
            }
            if (l.parts.size() == 12) {
                return -300;
            }
            Frac q = a[low(a)].over(b[low(b)]);
            if (q.num.signum() < 0) {
                return -100 - l.parts.size();
            }
            if (h == 1) {
                l.parts.add(new Part(shunt ? 0 : 1, shunt, Frac.ONE.over(q)));
            } else {
                l.parts.add(new Part(2, shunt, shunt ? Frac.ONE.over(q) : q));
            }
            Frac[] rest = a.clone();
            for (int p = 0; p <= 12; p++) {
                rest[p] = a[p].minus(q.times(p + h > 12 ? Frac.ZERO : b[p + h]));
            }
            a = rest;
            if (high(a) < 0) {
                l.end = shunt ? 1 : 0;
                return add(l);
            }
        }
    }

    int invert(int ratio) {
        if (noRatio(ratio)) {
            return BAD;
        }
        if (now.ratios.size() == 6) {
            return FULL;
        }
        Ratio r = now.ratios.get(ratio);
        return addOrNot(new Ratio(r.below, r.above));
    }

    int stretch(int ratio, int wNum, int wDen, int rNum, int rDen) {
        if (noRatio(ratio) || notTold(wNum, wDen, rNum, rDen)) {
            return BAD;
        }
        if (now.ratios.size() == 6) {
            return FULL;
        }
        Ratio old = now.ratios.get(ratio);
        Frac w = Frac.told(wNum, wDen);
        Frac r = Frac.told(rNum, rDen);
        try {
            Frac[] above = overPowers(old.above, w);
            Frac[] below = overPowers(old.below, w);
            for (int p = 0; p <= 12; p++) {
                above[p] = above[p].times(r);
            }
            return addOrNot(new Ratio(above, below));
        } catch (TooWide e) {
            return WIDE;
        }
    }

    private static Frac[] overPowers(Frac[] poly, Frac w) {
        Frac[] made = poly.clone();
        for (int p = 0; p <= 12; p++) {
            for (int k = 1; k <= p; k++) {
                made[p] = made[p].over(w);
            }
        }
        return made;
    }

    int shift(int ratio, int num, int den) {
        if (noRatio(ratio) || notTold(num, den)) {
            return BAD;
        }
        if (now.ratios.size() == 6) {
            return FULL;
        }
        Ratio r = now.ratios.get(ratio);
        Frac d = Frac.told(num, den);
        try {
            return addOrNot(new Ratio(shifted(r.above, d), shifted(r.below, d)));
        } catch (TooWide e) {
            return WIDE;
        }
    }

    private static Frac[] shifted(Frac[] poly, Frac d) {
        Frac[] c = poly.clone();
        int g = high(c);
        for (int j = 0; j <= g - 1; j++) {
            for (int i = g - 1; i >= j; i--) {
                c[i] = c[i].plus(d.times(c[i + 1]));
            }
        }
        return c;
    }

    // ---- ladders

    int parts(int ladder) {
        return noLadder(ladder) ? BAD : now.ladders.get(ladder).parts.size();
    }

    int end(int ladder) {
        return noLadder(ladder) ? BAD : now.ladders.get(ladder).end;
    }

    private boolean noPart(int ladder, int k) {
        return noLadder(ladder) || k < 0 || k >= now.ladders.get(ladder).parts.size();
    }

    int part(int ladder, int k, int what) {
        if (noPart(ladder, k) || notPart(what)) {
            return BAD;
        }
        Part p = now.ladders.get(ladder).parts.get(k);
        return what == 0 ? p.sort : p.shunt ? 1 : 0;
    }

    long value(int ladder, int k, int part) {
        if (notPart(part) || noLadder(ladder)) {
            return NO;
        }
        Ladder l = now.ladders.get(ladder);
        if (k == -1) {
            return l.end == 2 ? l.loss.tell(part) : NO;
        }
        return noPart(ladder, k) ? NO : l.parts.get(k).v.tell(part);
    }

    private static Frac[] times(Frac[] poly, Frac v) {
        Frac[] made = poly.clone();
        for (int p = 0; p <= 12; p++) {
            made[p] = poly[p].times(v);
        }
        return made;
    }

    private static Frac[] timesS(Frac[] poly) {
        Frac[] made = zeros();
        System.arraycopy(poly, 0, made, 1, 12);
        if (!poly[12].isZero()) {
            throw new IllegalStateException("a power beyond 12");
        }
        return made;
    }

    private static Frac[] plus(Frac[] x, Frac[] y) {
        Frac[] made = zeros();
        for (int p = 0; p <= 12; p++) {
            made[p] = x[p].plus(y[p]);
        }
        return made;
    }

    int multiply(int ladder) {
        if (noLadder(ladder)) {
            return BAD;
        }
        if (now.ratios.size() == 6) {
            return FULL;
        }
        Ladder l = now.ladders.get(ladder);
        try {
            return addOrNot(multipliedOut(l));
        } catch (TooWide e) {
            return WIDE;
        }
    }

    private static Ratio multipliedOut(Ladder l) {
        Frac[] x = zeros();
        Frac[] y = zeros();
        x[0] = l.end == 0 ? Frac.ZERO : l.end == 1 ? Frac.ONE : l.loss;
        y[0] = l.end == 1 ? Frac.ZERO : Frac.ONE;
        for (int k = l.parts.size() - 1; k >= 0; k--) {
            Part p = l.parts.get(k);
            Frac v = p.v;
            switch (p.sort + (p.shunt ? 3 : 0)) {
                case 0 -> x = plus(x, timesS(times(y, v)));
                case 1 -> {
                    x = plus(timesS(times(x, v)), y);
                    y = timesS(times(y, v));
                }
                case 2 -> x = plus(x, times(y, v));
                case 3 -> {
                    y = plus(timesS(times(y, v)), x);
                    x = timesS(times(x, v));
                }
                case 4 -> y = plus(y, timesS(times(x, v)));
                default -> {
                    y = plus(times(y, v), x);
                    x = times(x, v);
                }
            }
        }
        return new Ratio(x, y);
    }

    int close(int ladder, int end, int num, int den) {
        if (noLadder(ladder) || end < 0 || end > 2 || end == 2 && notTold(num, den)) {
            return BAD;
        }
        Ladder l = now.ladders.get(ladder);
        int had = l.end;
        l.end = end;
        l.loss = end == 2 ? Frac.told(num, den) : null;
        return had;
    }

    int scale(int ladder, int wNum, int wDen, int rNum, int rDen) {
        if (noLadder(ladder) || notTold(wNum, wDen, rNum, rDen)) {
            return BAD;
        }
        if (now.ladders.size() == 6) {
            return FULL;
        }
        Ladder old = now.ladders.get(ladder);
        Ladder l = old.like();
        Frac w = Frac.told(wNum, wDen);
        Frac r = Frac.told(rNum, rDen);
        try {
            for (Part p : old.parts) {
                Frac v = p.sort == 0 ? p.v.times(r).over(w) : p.sort == 1 ? p.v.over(r).over(w) : p.v.times(r);
                l.parts.add(new Part(p.sort, p.shunt, v));
            }
            l.loss = l.end == 2 ? old.loss.times(r) : null;
            return add(l);
        } catch (TooWide e) {
            return WIDE;
        }
    }

    private int cannotWiden(Ladder l) {
        int more = 0;
        for (Part p : l.parts) {
            if (p.sort == 1 && !p.shunt || p.sort == 0 && p.shunt) {
                return STATE;
            }
            more += p.sort == 2 ? 1 : 2;
        }
        return more > 12 ? -300 : 0;
    }

    int band(int ladder, int mNum, int mDen, int bNum, int bDen) {
        if (noLadder(ladder) || notTold(mNum, mDen, bNum, bDen)) {
            return BAD;
        }
        if (now.ladders.size() == 6) {
            return FULL;
        }
        Ladder old = now.ladders.get(ladder);
        if (cannotWiden(old) != 0) {
            return cannotWiden(old);
        }
        Frac m = Frac.told(mNum, mDen);
        Frac b = Frac.told(bNum, bDen);
        Ladder l = old.like();
        try {
            for (Part p : old.parts) {
                l.parts.add(p.sort == 2 ? p : new Part(p.sort, p.shunt, p.v.over(b)));
                if (p.sort != 2) {
                    l.parts.add(new Part(1 - p.sort, p.shunt, b.over(p.v).over(m)));
                }
            }
            return add(l);
        } catch (TooWide e) {
            return WIDE;
        }
    }

    int dull(int ladder, int num, int den) {
        if (noLadder(ladder) || notTold(num, den)) {
            return BAD;
        }
        if (now.ladders.size() == 6) {
            return FULL;
        }
        Ladder old = now.ladders.get(ladder);
        if (cannotWiden(old) != 0) {
            return cannotWiden(old);
        }
        Frac d = Frac.told(num, den);
        Ladder l = old.like();
        try {
            for (Part p : old.parts) {
                l.parts.add(p);
                if (p.sort == 0) {
                    l.parts.add(new Part(2, false, p.v.times(d)));
                } else if (p.sort == 1) {
                    l.parts.add(new Part(2, true, Frac.ONE.over(p.v.times(d))));
                }
            }
            return add(l);
        } catch (TooWide e) {
            return WIDE;
        }
    }

    int turn(int ladder) {
        if (noLadder(ladder)) {
            return BAD;
        }
        if (now.ladders.size() == 6) {
            return FULL;
        }
        Ladder l = now.ladders.get(ladder).copy();
        java.util.Collections.reverse(l.parts);
        return add(l);
    }

    private Frac nearestOf(int sort, Frac v) {
        return now.bins.get(sort).keySet().stream()
                .min(Comparator.comparing((Frac b) -> b.awayFrom(v)).thenComparing(b -> b)).orElse(null);
    }

    int fit(int ladder) {
        if (noLadder(ladder)) {
            return BAD;
        }
        if (now.ladders.size() == 6) {
            return FULL;
        }
        Ladder old = now.ladders.get(ladder);
        Ladder l = old.like();
        for (Part p : old.parts) {
            Frac v = nearestOf(p.sort, p.v);
            if (v == null) {
                return NOT;
            }
            l.parts.add(new Part(p.sort, p.shunt, v));
        }
        return add(l);
    }

    int forget(int what) {
        if (what < 0 || what > 1) {
            return BAD;
        }
        List<?> all = what == 0 ? now.ratios : now.ladders;
        int had = all.size();
        all.clear();
        return had;
    }

    // ---- worth, reactance

    private static Frac worthOf(Ladder l, Frac x) {
        Frac z = l.end == 0 ? Frac.ZERO : l.end == 1 ? Frac.INFINITE : l.loss;
        for (int k = l.parts.size() - 1; k >= 0; k--) {
            Part p = l.parts.get(k);
            if (!p.shunt) {
                Frac t = p.sort == 0 ? p.v.times(x) : p.sort == 1 ? Frac.ONE.over(p.v.times(x)) : p.v;
                z = z == Frac.INFINITE ? z : z.plus(t);
            } else {
                Frac t = p.sort == 0 ? Frac.ONE.over(p.v.times(x)) : p.sort == 1 ? p.v.times(x) : Frac.ONE.over(p.v);
                if (z == Frac.INFINITE) {
                    z = Frac.ONE.over(t);
                } else if (!z.isZero()) {
                    z = Frac.ONE.over(Frac.ONE.over(z).plus(t));
                }
            }
        }
        return z;
    }

    long worth(int ladder, int num, int den, int part) {
        if (noLadder(ladder) || notTold(num, den) || notPart(part)) {
            return NO;
        }
        try {
            return worthOf(now.ladders.get(ladder), Frac.told(num, den)).tell(part);
        } catch (TooWide e) {
            return NO;
        }
    }

    private static Frac reactanceOf(Ladder l, Frac w) {
        Frac z = l.end == 0 ? Frac.ZERO : Frac.INFINITE;
        for (int k = l.parts.size() - 1; k >= 0; k--) {
            Part p = l.parts.get(k);
            boolean plain = p.shunt == (p.sort == 1);
            Frac t = plain ? w.times(p.v) : Frac.ZERO.minus(Frac.ONE.over(w.times(p.v)));
            if (!p.shunt) {
                z = z == Frac.INFINITE ? z : z.plus(t);
            } else if (z == Frac.INFINITE) {
                z = Frac.ZERO.minus(Frac.ONE.over(t));
            } else if (!z.isZero()) {
                Frac u = t.minus(Frac.ONE.over(z));
                z = u.isZero() ? Frac.INFINITE : Frac.ZERO.minus(Frac.ONE.over(u));
            }
        }
        return z;
    }

    private static boolean lossy(Ladder l) {
        return l.end == 2 || l.parts.stream().anyMatch(p -> p.sort == 2);
    }

    long react(int ladder, int num, int den, int part) {
        if (noLadder(ladder) || notTold(num, den) || notPart(part) || lossy(now.ladders.get(ladder))) {
            return NO;
        }
        try {
            return reactanceOf(now.ladders.get(ladder), Frac.told(num, den)).tell(part);
        } catch (TooWide e) {
            return NO;
        }
    }

    int first(int ladder, int what) {
        if (noLadder(ladder) || what < 0 || what > 2) {
            return BAD;
        }
        Ladder l = now.ladders.get(ladder);
        if (lossy(l)) {
            return STATE;
        }
        try {
            for (int w = 1; w <= 40; w++) {
                Frac z = reactanceOf(l, Frac.whole(w));
                int is = z == Frac.INFINITE ? 1 : z.isZero() ? 0 : z.num.signum() < 0 ? 2 : 3;
                if (is == what) {
                    return w;
                }
            }
            return NOT;
        } catch (TooWide e) {
            return WIDE;
        }
    }

    // ---- the store

    int stock(int sort, int num, int den, int count, int price) {
        if (sort < 0 || sort > 2 || notTold(num, den) || count < 0 || count > 99 || price < 1 || price > 99) {
            return BAD;
        }
        TreeMap<Frac, Bin> bins = now.bins.get(sort);
        Frac v = Frac.told(num, den);
        if (!bins.containsKey(v) && bins.size() == 10) {
            return FULL;
        }
        bins.put(v, new Bin(count, price));
        return bins.size();
    }

    int bin(int sort, int k, int what) {
        if (sort < 0 || sort > 2 || what < 0 || what > 3 || k < 0) {
            return BAD;
        }
        TreeMap<Frac, Bin> bins = now.bins.get(sort);
        if (k >= bins.size()) {
            return NOT;
        }
        Frac v = new ArrayList<>(bins.keySet()).get(k);
        return what == 0 ? bins.get(v).count : what == 1 ? bins.get(v).price : (int) v.tell(what - 2);
    }

    long nearest(int sort, int num, int den, int part) {
        if (sort < 0 || sort > 2 || notTold(num, den) || notPart(part)) {
            return NO;
        }
        Frac v = nearestOf(sort, Frac.told(num, den));
        return v == null ? NO : v.tell(part);
    }

    int build(int ladder, int urgency) {
        if (noLadder(ladder) || urgency < 0 || urgency > 9) {
            return BAD;
        }
        Kept before = now.copy();
        int came = 0;
        for (Part p : now.ladders.get(ladder).parts) {
            Bin bin = now.bins.get(p.sort).get(p.v);
            if (bin != null && bin.count > 0) {
                now.bins.get(p.sort).put(p.v, new Bin(bin.count - 1, bin.price));
                now.spent += bin.price;
            } else {
                now.wants.add(new Want(p.sort, p.v, urgency, now.ever++));
                came++;
            }
        }
        if (now.wants.size() > 24) {
            now = before;
            return FULL;
        }
        now.wants.sort(ORDER);
        return came;
    }

    int arrive(int n) {
        if (n < 1 || n > 24) {
            return BAD;
        }
        int gone = Math.min(n, now.wants.size());
        now.wants.subList(0, gone).clear();
        return gone;
    }

    int want(int k, int what) {
        if (k < 0 || what < 0 || what > 4) {
            return BAD;
        }
        if (k >= now.wants.size()) {
            return NOT;
        }
        Want w = now.wants.get(k);
        return what == 0 ? w.sort : what == 1 ? w.urgency : what == 2 ? w.number : (int) w.v.tell(what - 3);
    }

    int cost(int ladder) {
        if (noLadder(ladder)) {
            return BAD;
        }
        int sum = 0;
        for (Part p : now.ladders.get(ladder).parts) {
            Bin bin = now.bins.get(p.sort).get(p.v);
            if (bin == null) {
                return NOT;
            }
            sum += bin.price;
        }
        return sum;
    }

    long unlike(int sort, int k, int part) {
        if (sort < 0 || sort > 2 || k < -1 || notPart(part)) {
            return NO;
        }
        TreeSet<Frac> all = new TreeSet<>(Comparator.reverseOrder());
        now.ladders.forEach(l -> l.parts.stream().filter(p -> p.sort == sort).forEach(p -> all.add(p.v)));
        if (k == -1) {
            return all.size();
        }
        return k >= all.size() ? NO : new ArrayList<>(all).get(k).tell(part);
    }

    // ---- holders, the image

    private static boolean noHolder(int h) {
        return h < 0 || h > 5;
    }

    int hold(int h, int ladder, int k) {
        if (noHolder(h) || noPart(ladder, k)) {
            return BAD;
        }
        Part p = now.ladders.get(ladder).parts.get(k);
        holders[h] = p;
        return p.sort;
    }

    int drop(int h) {
        if (noHolder(h)) {
            return BAD;
        }
        Object had = holders[h];
        holders[h] = null;
        return had == null ? 0 : had instanceof Part ? 1 : 2;
    }

    int taken(int h, int kind) {
        if (noHolder(h) || kind < 0 || kind > 3) {
            return BAD;
        }
        if (holders[h] == null) {
            return -11;
        }
        if (!(holders[h] instanceof Part p) || kind != 0 && p.sort != kind - 1) {
            return -12;
        }
        return switch (kind) {
            case 0 -> 10 * p.sort + (p.shunt ? 1 : 0);
            case 1 -> (int) p.v.tell(0);
            case 2 -> (int) p.v.tell(1);
            default -> (int) (p.v.tell(0) + p.v.tell(1));
        };
    }

    int row(int h, int n) {
        if (noHolder(h) || n > 40) {
            return BAD;
        }
        if (n < 0) {
            return -14;
        }
        holders[h] = new long[n];
        return n;
    }

    private int noRow(int h) {
        return noHolder(h) ? BAD : holders[h] == null ? -11 : holders[h] instanceof long[] ? 0 : -12;
    }

    int put(int h, int i, long v) {
        if (noRow(h) != 0) {
            return noRow(h);
        }
        long[] row = (long[]) holders[h];
        if (i < 0 || i >= row.length) {
            return -13;
        }
        row[i] = v;
        return 1;
    }

    long get(int h, int i) {
        if (noRow(h) != 0) {
            return NO;
        }
        long[] row = (long[]) holders[h];
        return i < 0 || i >= row.length ? NO : row[i];
    }

    int copy(int h, int i, int g, int j, int n) {
        if (noHolder(h) || noHolder(g)) {
            return BAD;
        }
        if (holders[h] == null || holders[g] == null) {
            return -11;
        }
        if (noRow(h) != 0 || noRow(g) != 0) {
            return -12;
        }
        long[] from = (long[]) holders[h];
        long[] to = (long[]) holders[g];
        if (n < 0 || i < 0 || j < 0 || (long) i + n > from.length || (long) j + n > to.length) {
            return -13;
        }
        System.arraycopy(from.clone(), i, to, j, n);
        return n;
    }

    int judge(int h, int ladder) {
        if (noHolder(h) || noLadder(ladder)) {
            return BAD;
        }
        if (noRow(h) != 0) {
            return noRow(h);
        }
        long[] row = (long[]) holders[h];
        List<Part> parts = now.ladders.get(ladder).parts;
        for (int k = 0; k < parts.size(); k++) {
            Frac v = parts.get(k).v;
            if (row.length < 2 * k + 2 || row[2 * k] != v.tell(0) || row[2 * k + 1] != v.tell(1)) {
                return k;
            }
        }
        return row.length > 2 * parts.size() ? parts.size() : NOT;
    }

    int image() {
        image = now.copy();
        return now.ladders.size();
    }

    int undo() {
        if (image == null) {
            return STATE;
        }
        now = image.copy();
        return now.ladders.size();
    }

    int count(int what) {
        return switch (what) {
            case 0 -> tape.length();
            case 1 -> now.ratios.size();
            case 2 -> now.ladders.size();
            case 3 -> now.wants.size();
            case 4 -> now.spent;
            case 5 -> now.ever;
            case 6, 7, 8 -> now.bins.get(what - 6).size();
            default -> BAD;
        };
    }
}
