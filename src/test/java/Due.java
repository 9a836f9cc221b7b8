/** Counts the answers that are not as due; each test of the project has one of its own. */
final class Due {
    static final long BAD = -1, NOT = -2, FULL = -3, STATE = -5, WIDE = -6;
    static final long NO = Long.MIN_VALUE;

    private final String test;
    private int asked = 0;
    private int wrong = 0;

    Due(String test) {
        this.test = test;
    }

    void is(int promise, String call, long got, long want) {
        asked++;
        if (got != want) {
            wrong++;
            System.out.println(test + ", promise " + promise + ": " + call
                    + " answered " + got + ", due is " + want);
        }
    }

    void isTrue(int promise, String what, boolean holds) {
        is(promise, what, holds ? 1 : 0, 1);
    }

    void end() {
        System.out.println(test + ": " + asked + " answers, " + wrong + " not as due");
        if (wrong != 0) {
            System.exit(1);
        }
    }

    /** Puts a text on the tape, a byte a call. */
    static LadderMaker feed(LadderMaker x, String text) {
        for (int i = 0; i < text.length(); i++) {
            x.feed(text.charAt(i), 1);
        }
        return x;
    }

    static int ratio(LadderMaker x, String text) {
        return feed(x, text).ratio();
    }

    static int ladder(LadderMaker x, String text) {
        return feed(x, text).ladder();
    }

    /** A poly as a text: its coefficients from the greatest power down, each as above/below. */
    static String poly(LadderMaker x, int ratio, int side) {
        StringBuilder told = new StringBuilder();
        for (int p = 12; p >= 0; p--) {
            long above = x.coefficient(ratio, side, p, 0);
            if (above != 0) {
                told.append(told.length() == 0 ? "" : " ").append(p).append(':').append(above)
                        .append('/').append(x.coefficient(ratio, side, p, 1));
            }
        }
        return told.toString();
    }

    static String ratioText(LadderMaker x, int ratio) {
        return poly(x, ratio, 0) + " | " + poly(x, ratio, 1);
    }

    /** A ladder as a text, in the form of the tape's texts, each value as above/below. */
    static String ladderText(LadderMaker x, int ladder) {
        StringBuilder told = new StringBuilder();
        for (int k = 0; k < x.parts(ladder); k++) {
            String signs = x.part(ladder, k, 1) == 1 ? "LCR" : "lcr";
            told.append(k == 0 ? "" : ",").append(signs.charAt(x.part(ladder, k, 0)))
                    .append(x.value(ladder, k, 0)).append('/').append(x.value(ladder, k, 1));
        }
        told.append(';').append("sor".charAt(x.end(ladder)));
        if (x.end(ladder) == 2) {
            told.append(x.value(ladder, -1, 0)).append('/').append(x.value(ladder, -1, 1));
        }
        return told.toString();
    }

    void isText(int promise, String what, String got, String want) {
        asked++;
        if (!got.equals(want)) {
            wrong++;
            System.out.println(test + ", promise " + promise + ": " + what
                    + " is \"" + got + "\", due is \"" + want + "\"");
        }
    }
}
