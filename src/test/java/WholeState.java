import java.util.List;

/**
 * All that calls can tell about an object, as a text. As an object has no more than 512 calls, and as some looks
 * change what they look at, each group of looks has an object of its own, on which the same calls were made before.
 */
final class WholeState {
    private final List<Call> calls;
    private final StringBuilder told = new StringBuilder();

    private WholeState(List<Call> calls) {
        this.calls = calls;
    }

    static String behind(List<Call> calls) {
        WholeState state = new WholeState(calls);
        state.lookAtAllThatIsKept(false);
        state.lookAtHolders(0, 2);
        state.lookAtHolders(3, 5);
        state.readTapeAsRatio();
        state.readTapeAsLadder();
        state.goOn();
        long undone = Bench.behind(calls).x().undo();
        state.tell("the image", undone);
        if (undone >= 0) {
            state.lookAtAllThatIsKept(true);
        }
        return state.told.toString();
    }

    private void tell(String what, long answer) {
        told.append(what).append(": ").append(answer).append('\n');
    }

    private Bench bench(boolean isUndone) {
        Bench bench = Bench.behind(calls);
        if (isUndone) {
            bench.x().undo();
            told.append("behind undo, ");
        }
        return bench;
    }

    private void lookAtAllThatIsKept(boolean isUndone) {
        lookAtStore(bench(isUndone));
        lookAtRatios(bench(isUndone), 0, 2);
        lookAtRatios(bench(isUndone), 3, 5);
        lookAtLadders(bench(isUndone), 0, 2);
        lookAtLadders(bench(isUndone), 3, 5);
    }

    private void lookAtStore(Bench b) {
        for (int what = 0; what <= 8; what++) {
            tell("count " + what, b.x().count(what));
        }
        for (int sort = 0; sort < 3; sort++) {
            int bins = b.x().count(6 + sort);
            for (int k = 0; k <= bins; k++) {
                for (int what = 0; what < 4; what++) {
                    tell("bin " + sort + " " + k + " " + what, b.x().bin(sort, k, what));
                }
            }
        }
        int wants = b.x().count(3);
        for (int k = 0; k <= wants; k++) {
            for (int what = 0; what < 5; what++) {
                tell("want " + k + " " + what, b.x().want(k, what));
            }
        }
    }

    private void lookAtRatios(Bench b, int from, int to) {
        for (int r = from; r <= to; r++) {
            if (b.x().degree(r, 0) >= 0) {
                lookAtRatio(b, r);
            }
        }
    }

    private void lookAtRatio(Bench b, int r) {
        for (int k = 0; k < 52; k++) {
            tell("coefficient " + r + " no " + k, b.x().coefficient(r, k / 26, k / 2 % 13, k % 2));
        }
    }

    private void lookAtLadders(Bench b, int from, int to) {
        for (int l = from; l <= to; l++) {
            if (b.x().parts(l) >= 0) {
                lookAtLadder(b, l);
            }
        }
    }

    private void lookAtLadder(Bench b, int l) {
        int parts = b.x().parts(l);
        tell("parts of " + l, parts);
        tell("end of " + l, b.x().end(l));
        for (int part = 0; part < 2; part++) {
            for (int k = -1; k < parts; k++) {
                tell("value " + l + " " + k + " " + part, b.x().value(l, k, part));
                tell("part " + l + " " + k + " " + part, b.x().part(l, k, part));
            }
        }
    }

    private void lookAtHolders(int from, int to) {
        Bench b = Bench.behind(calls);
        for (int h = from; h <= to; h++) {
            for (int kind = 0; kind < 4; kind++) {
                tell("holder " + h + " for " + kind, b.x().taken(h, kind));
            }
            for (int i = 0; i < 41 && b.x().put(h, i, b.x().get(h, i)) == 1; i++) {
                tell("holder " + h + " at " + i, b.x().get(h, i));
            }
            tell("holder " + h + " held", b.x().drop(h));
        }
    }

    /** What comes next may tell of a trace that nothing else tells of. */
    private void goOn() {
        Bench b = Bench.behind(calls);
        b.x().wipe();
        b.x().feed(0x6C333B73, 4);
        int ladder = b.x().ladder();
        tell("the next ladder", ladder);
        lookAtLadders(b, ladder, ladder);
        tell("it is built", b.x().build(ladder, 4));
        tell("the first want", b.x().want(0, 2));
        tell("it is held", b.x().hold(0, ladder, 0));
        b.x().wipe();
        b.x().feed(0x32732F33, 4);
        int ratio = b.x().ratio();
        tell("the next ratio", ratio);
        lookAtRatios(b, ratio, ratio);
        tell("it is divided", b.x().divide(ratio, 0));
        lookAtLadders(b, ladder + 1, ladder + 1);
        tell("a row", b.x().row(5, 40));
        for (int i = 0; i < 40; i++) {
            tell("at " + i, b.x().get(5, i));
        }
    }

    private void readTapeAsRatio() {
        Bench b = Bench.behind(calls);
        b.x().forget(0);
        int answer = b.x().ratio();
        tell("the tape as a ratio", answer);
        if (answer == 0) {
            lookAtRatio(b, 0);
        }
    }

    private void readTapeAsLadder() {
        Bench b = Bench.behind(calls);
        b.x().forget(1);
        int answer = b.x().ladder();
        tell("the tape as a ladder", answer);
        if (answer == 0) {
            lookAtLadder(b, 0);
        }
    }
}
