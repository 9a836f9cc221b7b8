import java.util.List;

/** One object and a count of its calls: nothing is promised of an object behind its 512th call. */
final class Bench {
    static final int MOST_CALLS = 512;
    private final LadderMaker maker = new LadderMaker();
    private int calls = 0;

    /** To be asked for anew ahead of each call. */
    LadderMaker x() {
        calls++;
        if (calls > MOST_CALLS) {
            throw new IllegalStateException("a test uses an object for more than 512 calls");
        }
        return maker;
    }

    /** A new object on which these calls were made. */
    static Bench behind(List<Call> calls) {
        Bench bench = new Bench();
        for (Call call : calls) {
            call.on(bench);
        }
        return bench;
    }
}
