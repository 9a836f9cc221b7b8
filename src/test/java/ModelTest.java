import java.lang.reflect.InvocationTargetException;
import java.lang.reflect.Method;
import java.util.ArrayList;
import java.util.HashMap;
import java.util.List;
import java.util.Map;
import java.util.Random;
import java.util.TreeMap;

/** Runs of calls drawn by a fixed seed, on LadderMaker and on PlainModel: all answers must be alike. */
public final class ModelTest {
    private static final int RUNS = 9000;
    // an object has 512 calls; the last ones look at a part of its state
    private static final int DRAWN_CALLS = 320;
    private static final int MOST_CALLS = 512;
    private static final int[] ODD = {Integer.MIN_VALUE, -3, -1, 0, 7, 41, 10000, Integer.MAX_VALUE};

    private final Random random;
    private final LadderMaker maker = new LadderMaker();
    private final PlainModel model = new PlainModel();
    private final List<String> told = new ArrayList<>();
    private final int spread;
    private int calls = 0;

    private static final Map<String, Method> MAKER = methods(LadderMaker.class);
    private static final Map<String, Method> MODEL = methods(PlainModel.class);
    private static final Map<String, Integer> SEEN = new TreeMap<>();

    private ModelTest(long seed) {
        random = new Random(seed);
        spread = new int[] {3, 12, 100, 9999}[random.nextInt(4)];
    }

    public static void main(String[] args) throws ReflectiveOperationException {
        for (int seed = 0; seed < RUNS; seed++) {
            ModelTest run = new ModelTest(seed);
            if (!run.isAlike()) {
                run.tellEnd(seed);
                System.exit(1);
            }
        }
        int missing = 0;
        for (String want : WANTED) {
            if (!SEEN.containsKey(want)) {
                System.out.println("ModelTest: no run met " + want);
                missing++;
            }
        }
        if (args.length > 0) {
            System.out.println(SEEN);
        }
        System.out.println("ModelTest: " + RUNS + " runs of up to " + MOST_CALLS + " calls are alike, "
                + missing + " kinds of answers were not met");
        if (missing > 0) {
            System.exit(1);
        }
    }

    /** Answers that the runs must have met, so that they look where they should. */
    private static final String[] WANTED = {
        "feed FULL", "ratio ok", "ratio FULL", "ratio fault", "ratio NOT", "ladder ok", "ladder FULL",
        "ladder fault", "same 0", "same 1", "same WIDE", "divide ok", "divide WIDE", "divide FULL", "divide -100",
        "divide -200", "divide -300", "invert ok", "invert FULL", "stretch ok", "stretch WIDE", "stretch FULL",
        "shift ok", "shift WIDE", "shift FULL", "multiply ok", "multiply WIDE", "multiply NOT", "multiply FULL",
        "scale ok", "scale WIDE", "scale FULL", "band ok", "band WIDE", "band FULL", "band STATE", "band -300",
        "dull ok", "dull WIDE", "dull FULL", "dull STATE", "dull -300", "turn ok", "turn FULL", "fit ok", "fit NOT",
        "fit FULL", "first ok", "first NOT", "first STATE", "first WIDE", "stock ok", "stock FULL", "nearest ok",
        "nearest NO", "build ok", "build FULL", "arrive ok", "want ok", "want NOT", "cost ok", "cost NOT",
        "unlike ok", "unlike NO", "taken ok", "taken -11", "taken -12", "row -14", "put ok", "put -11", "put -12",
        "put -13", "get ok", "get NO", "copy ok", "copy -11", "copy -12", "copy -13", "judge ok",
        "judge NOT", "judge -11", "judge -12", "undo ok", "undo STATE", "worth NO", "worth ok", "react NO", "react ok"};

    private static Map<String, Method> methods(Class<?> type) {
        Map<String, Method> found = new HashMap<>();
        for (Method m : type.getDeclaredMethods()) {
            boolean isOfFace = type == PlainModel.class ? (m.getModifiers() & 2) == 0 && !m.isSynthetic()
                    : (m.getModifiers() & 1) != 0;
            if (isOfFace) {
                m.setAccessible(true);
                found.put(m.getName(), m);
            }
        }
        return found;
    }

    private boolean isAlike() throws ReflectiveOperationException {
        while (calls < DRAWN_CALLS) {
            if (!drawCall()) {
                return false;
            }
        }
        return stateIsAlike();
    }

    private void tellEnd(long seed) {
        System.out.println("ModelTest: the run of seed " + seed + " goes apart:");
        for (int k = Math.max(0, told.size() - 60); k < told.size(); k++) {
            System.out.println("  " + told.get(k));
        }
    }

    private boolean call(String name, Object... args) throws ReflectiveOperationException {
        calls++;
        if (calls > MOST_CALLS) {
            throw new IllegalStateException("a run uses an object for more than 512 calls");
        }
        Object got;
        try {
            got = MAKER.get(name).invoke(maker, args);
        } catch (InvocationTargetException e) {
            told.add(name + java.util.Arrays.toString(args) + " threw " + e.getCause());
            return false;
        }
        Object want = MODEL.get(name).invoke(model, args);
        told.add(name + java.util.Arrays.toString(args) + " answered " + got + ", the model " + want);
        note(name, ((Number) want).longValue());
        return got.equals(want);
    }

    private static void note(String name, long answer) {
        String kind = answer == Long.MIN_VALUE ? "NO" : answer >= 0 ? "ok" : answer <= -1000 ? "fault"
                : answer <= -300 ? "-300" : answer <= -200 ? "-200" : answer <= -100 ? "-100" : answer == -1 ? "BAD"
                : answer == -2 ? "NOT" : answer == -3 ? "FULL" : answer == -5 ? "STATE" : answer == -6 ? "WIDE"
                : String.valueOf(answer);
        if (name.equals("same") && answer >= 0) {
            kind = String.valueOf(answer);
        }
        SEEN.merge(name + " " + kind, 1, Integer::sum);
    }

    private int below(int n) {
        return random.nextInt(n);
    }

    /** Mostly 0 .. n - 1, now and then something odd. */
    private int near(int n) {
        return below(25) == 0 ? ODD[below(ODD.length)] : below(20) == 0 ? n : below(n);
    }

    private int told() {
        return below(60) == 0 ? ODD[below(ODD.length)] : below(12) == 0 ? 1 + below(9999) : 1 + below(spread);
    }

    private int ratio() {
        return near(Math.max(1, model.count(1)));
    }

    private int ladder() {
        return near(Math.max(1, model.count(2)));
    }

    private boolean drawCall() throws ReflectiveOperationException {
        switch (below(60)) {
            case 0: case 1: case 2: case 3:
                return text(ratioText()) && call("ratio");
            case 4: case 5: case 6: case 7: case 8:
                return text(ladderText()) && call("ladder");
            case 9:
                return below(3) == 0 ? call("wipe") : call("feed", random.nextInt(), near(5));
            case 10: case 11: case 12: case 13:
                return call("divide", ratio(), near(2));
            case 14:
                return call("invert", ratio());
            case 15:
                return call("stretch", ratio(), told(), told(), told(), told());
            case 16:
                return call("shift", ratio(), told(), told());
            case 17: case 18: case 19: case 20:
                return call("multiply", ladder());
            case 21: case 22:
                return call("close", ladder(), near(3), told(), told());
            case 23:
                return call("scale", ladder(), told(), told(), told(), told());
            case 24: case 25:
                return call("band", ladder(), told(), told(), told(), told());
            case 26: case 27:
                return call("dull", ladder(), told(), told());
            case 28:
                return call("turn", ladder());
            case 29: case 30:
                return call("fit", ladder());
            case 31: case 32: case 33:
                return call("forget", near(2));
            default:
                return drawLook();
        }
    }

    private boolean drawLook() throws ReflectiveOperationException {
        switch (below(30)) {
            case 0:
                return call("degree", ratio(), near(4));
            case 1:
                return call("coefficient", ratio(), near(2), near(13), near(2));
            case 2: case 3: case 4:
                return call("same", ratio(), ratio());
            case 5:
                return call("part", ladder(), near(12), near(2)) && call("parts", ladder()) && call("end", ladder());
            case 6:
                return call("value", ladder(), near(12) - below(2), near(2));
            case 7: case 8:
                return call("worth", ladder(), told(), told(), near(2));
            case 9: case 10:
                return call("react", ladder(), told(), told(), near(2));
            case 11: case 12:
                return call("first", ladder(), near(3));
            case 13:
                return below(8) == 0 ? fillBins(below(3)) : stock(near(3));
            case 14: case 15:
                return stock(near(3));
            case 16:
                return call("bin", near(3), near(10), near(4));
            case 17:
                return call("nearest", near(3), told(), told(), near(2));
            case 18: case 19:
                return call("build", ladder(), near(10));
            case 20:
                return call("arrive", near(25));
            case 21:
                return call("want", near(24), near(5));
            case 22:
                return call("cost", ladder());
            case 23:
                return call("unlike", near(3), near(20) - 1, near(2));
            case 24:
                return below(4) == 0 ? call("image") : below(4) == 0 ? call("undo") : call("count", near(9));
            default:
                return drawHolder();
        }
    }

    private boolean stock(int sort) throws ReflectiveOperationException {
        return call("stock", sort, told(), below(3) == 0 ? told() : 1, near(100), 1 + near(99));
    }

    private boolean fillBins(int sort) throws ReflectiveOperationException {
        boolean alike = true;
        for (int k = 0; k < 14 && alike; k++) {
            alike = stock(sort);
        }
        return alike;
    }

    private boolean drawHolder() throws ReflectiveOperationException {
        switch (below(10)) {
            case 0: case 1:
                return call("hold", near(6), ladder(), near(3));
            case 2:
                return below(2) == 0 || call("drop", near(6));
            case 3:
                return call("taken", near(6), near(4));
            case 4:
                return call("row", near(6), near(41));
            case 5:
                return call("put", near(6), near(40), random.nextLong());
            case 6:
                return call("get", near(6), near(40));
            case 7:
                return call("copy", near(6), near(20), near(6), near(20), near(20));
            case 8:
                return writeRow();
            default:
                return call("judge", near(6), ladder());
        }
    }

    /** A row that tells a ladder's values, or nearly. */
    private boolean writeRow() throws ReflectiveOperationException {
        int ladder = below(6);
        int size = Math.max(0, model.parts(ladder));
        int h = below(6);
        boolean alike = call("row", h, 2 * size + below(8) / 7);
        for (int k = 0; k < size && alike; k++) {
            alike = call("put", h, 2 * k, model.value(ladder, k, 0) + below(20) / 19)
                    && call("put", h, 2 * k + 1, model.value(ladder, k, 1));
        }
        return alike && call("judge", h, ladder);
    }

    private boolean text(String text) throws ReflectiveOperationException {
        if (below(20) != 0 && !call("wipe")) {
            return false;
        }
        String fed = below(4) == 0 ? spoil(text) : text;
        for (int at = 0; at < fed.length();) {
            int n = Math.min(fed.length() - at, 1 + below(4));
            int v = random.nextInt();
            for (int k = 0; k < n; k++) {
                v = v << 8 | fed.charAt(at + k);
            }
            if (!call("feed", v, n)) {
                return false;
            }
            at += n;
        }
        return true;
    }

    private String spoil(String text) {
        int at = below(text.length() + 1);
        String signs = "0159s+-/lcrLCR;,or \u00e9\u0000";
        switch (below(3)) {
            case 0:
                return text.substring(0, at);
            case 1:
                return text.substring(0, at) + signs.charAt(below(signs.length())) + text.substring(at);
            default:
                return text.substring(0, at) + signs.charAt(below(signs.length()))
                        + text.substring(Math.min(text.length(), at + 1));
        }
    }

    private String ratioText() {
        if (below(12) == 0) {
            String poly = polyText();
            return poly + "-" + poly.replace("-", "") + "/" + polyText();
        }
        return polyText() + "/" + polyText();
    }

    private String polyText() {
        StringBuilder text = new StringBuilder(below(8) == 0 ? "-" : "");
        int most = 1 + below(10);
        int terms = 1 + below(4);
        for (int k = 0; k < terms; k++) {
            text.append(k == 0 ? "" : below(6) == 0 ? "-" : "+");
            int power = below(most);
            text.append(power == 0 || below(2) == 0 ? String.valueOf(1 + below(spread)) : "");
            text.append(power == 0 ? below(9) == 0 ? "s0" : "" : power == 1 ? below(3) == 0 ? "s1" : "s" : "s" + power);
        }
        return text.toString();
    }

    private String valueText() {
        return (1 + below(spread)) + (below(3) == 0 ? "/" + (1 + below(spread)) : "");
    }

    private String ladderText() {
        if (below(10) == 0) {
            // what comes of it, if it is lossy, can't be divided into 12 parts
            return "l1,C1,l1,C1,l1,C1,l1,C1,l1,C1,l1,C" + valueText() + ";" + (below(3) == 0 ? "o" : "r1");
        }
        StringBuilder text = new StringBuilder();
        int parts = below(6) == 0 ? 10 + below(4) : 1 + below(6);
        String signs = new String[] {"lC", "lC", "lC", "cL", "lcrLCR", "lcLC", "lCrR"}[below(7)];
        for (int k = 0; k < parts; k++) {
            text.append(k == 0 ? "" : ",").append(signs.charAt(below(signs.length()))).append(valueText());
        }
        text.append(';').append(new String[] {"s", "o", "r" + valueText()}[below(3)]);
        return text.toString();
    }

    private boolean stateIsAlike() throws ReflectiveOperationException {
        switch (below(5)) {
            case 0:
                return ratioIsAlike(below(6)) && ratioIsAlike(below(6));
            case 1:
                return ladderIsAlike(below(6)) && ladderIsAlike(below(6));
            case 2:
                return storeIsAlike();
            case 3:
                return holderIsAlike(below(6)) && holderIsAlike(below(6));
            default:
                return wantsAreAlike();
        }
    }

    private boolean ratioIsAlike(int r) throws ReflectiveOperationException {
        boolean alike = call("count", 1);
        for (int k = 0; k < 52 && alike; k++) {
            alike = call("coefficient", r, k / 26, k / 2 % 13, k % 2);
        }
        return alike;
    }

    private boolean ladderIsAlike(int l) throws ReflectiveOperationException {
        boolean alike = call("count", 2) && call("parts", l) && call("end", l);
        for (int k = -1; k < 12 && alike; k++) {
            alike = call("value", l, k, 0) && call("value", l, k, 1) && call("part", l, k, 0) && call("part", l, k, 1);
        }
        return alike;
    }

    private boolean storeIsAlike() throws ReflectiveOperationException {
        boolean alike = true;
        for (int what = 0; what <= 8 && alike; what++) {
            alike = call("count", what);
        }
        for (int k = 0; k < 120 && alike; k++) {
            alike = call("bin", k / 40, k / 4 % 10, k % 4);
        }
        return alike;
    }

    private boolean wantsAreAlike() throws ReflectiveOperationException {
        boolean alike = call("count", 3) && call("count", 5);
        for (int k = 0; k < 120 && alike; k++) {
            alike = call("want", k / 5, k % 5);
        }
        return alike;
    }

    private boolean holderIsAlike(int h) throws ReflectiveOperationException {
        boolean alike = true;
        for (int kind = 0; kind < 4 && alike; kind++) {
            alike = call("taken", h, kind);
        }
        for (int i = 0; i < 41 && alike; i++) {
            alike = call("get", h, i);
        }
        return alike && call("drop", h);
    }
}
