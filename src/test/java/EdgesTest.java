import java.io.IOException;
import java.nio.file.Files;
import java.nio.file.Path;
import java.util.ArrayList;
import java.util.HashMap;
import java.util.List;
import java.util.Map;
import java.util.TreeSet;
import java.util.regex.Matcher;
import java.util.regex.Pattern;
import java.util.stream.Stream;

/**
 * The sentences of the document that name a boundary case, each with a script of its own under src/test/edges
 * (README.md tells their form). Behind each call that is refused, or that only looks, all else that calls can tell
 * must be as it was; what ratio() and ladder() refuse must have emptied the tape and nothing else.
 */
public final class EdgesTest {
    private static final Path SCRIPTS = Path.of("src/test/edges");
    private static final Path DOCUMENT = Path.of("../shared/DOC.md");
    private static final int PROMISES = 46;
    private static final Pattern CALL = Pattern.compile("(?:(\\d+) \\* )?(\\w+)(?:\\((.*)\\)| '(.*)')(?: -> (\\S+))?");
    private static final Pattern IS = Pattern.compile("(ratio|ladder) (\\d+) is '(.*)'");
    /** Headings, fences, names of calls: what stands in the document between its sentences. */
    private static final Pattern NO_SENTENCE = Pattern.compile("## Terms|```text|```|======== \\d"
            + "|## Promise \\d+: [\\w ]+`[^`]*`:|Ahead of the calls [^.]*the interface says: ---- [^.]*\\.|The constants:");
    private static final Pattern SET = Pattern.compile("\\{([^}]*)\\}");

    private static final TreeSet<Integer> promises = new TreeSet<>();
    private static String document;
    private static boolean[] quoted;
    private static int edges = 0;
    private static int answers = 0;
    private static int states = 0;
    private static int wrong = 0;

    /** Lines that several scripts of a file begin with, by their names. */
    private final Map<String, List<String>> blocks = new HashMap<>();
    private String title = "";
    private List<Call> made = new ArrayList<>();
    private Bench bench = new Bench();
    private String state = null;

    public static void main(String[] args) throws IOException {
        document = Files.readString(DOCUMENT).replaceAll("\\s+", " ");
        quoted = new boolean[document.length()];
        try (Stream<Path> files = Files.list(SCRIPTS)) {
            for (Path file : files.sorted().toList()) {
                new EdgesTest().run(file);
            }
        }
        for (int promise = 1; promise <= PROMISES; promise++) {
            if (!promises.contains(promise)) {
                fail("promise " + promise, "it has no edge");
            }
        }
        findUnquoted();
        System.out.println("EdgesTest: " + edges + " edges, " + answers + " answers, " + states
                + " times nothing else may have changed, " + wrong + " not as due");
        if (wrong > 0) {
            System.exit(1);
        }
    }

    private static void fail(String where, String what) {
        wrong++;
        System.out.println("EdgesTest, " + where + ": " + what);
    }

    private void run(Path file) throws IOException {
        List<String> block = null;
        for (String line : Files.readAllLines(file)) {
            String plain = line.trim();
            if (plain.isEmpty() || plain.startsWith("#")) {
                continue;
            }
            if (plain.startsWith(":: ")) {
                block = new ArrayList<>();
                blocks.put(plain.substring(3), block);
            } else if (plain.startsWith("== ")) {
                block = null;
                begin(plain.substring(3));
            } else if (block != null) {
                block.add(plain);
            } else {
                runLine(plain);
            }
        }
    }

    private void runLine(String line) {
        if (line.startsWith("use ")) {
            List<String> block = blocks.get(line.substring(4));
            if (block == null) {
                fail(title, "there is no block for: " + line);
                return;
            }
            block.forEach(this::runLine);
            return;
        }
        Matcher is = IS.matcher(line);
        if (is.matches()) {
            compareText(line, is.group(1), Integer.parseInt(is.group(2)), is.group(3));
        } else {
            runCall(line);
        }
    }

    private void begin(String header) {
        String[] words = header.split(" \\| ");
        for (String promise : words[0].trim().split(" ")) {
            promises.add(Integer.parseInt(promise));
        }
        title = "promise " + header;
        for (int k = 1; k < words.length; k++) {
            quote(words[k].trim());
        }
        edges++;
        made = new ArrayList<>();
        bench = new Bench();
        state = null;
    }

    private void quote(String words) {
        int at = document.indexOf(words);
        if (at < 0) {
            fail(title, "the document has no such words: " + words);
        }
        for (; at >= 0; at = document.indexOf(words, at + 1)) {
            java.util.Arrays.fill(quoted, at, at + words.length(), true);
        }
    }

    private void compareText(String line, String what, int number, String want) {
        // the looks of a text have an object of their own, so that they don't count as calls of the script
        LadderMaker x = Bench.behind(made).x();
        String got = what.equals("ratio") ? Due.ratioText(x, number) : Due.ladderText(x, number);
        answers++;
        if (!got.equals(want)) {
            fail(title, line + ", but it is '" + got + "'");
        }
    }

    private void runCall(String line) {
        Matcher m = CALL.matcher(line);
        if (!m.matches()) {
            fail(title, "not understood: " + line);
            return;
        }
        int times = m.group(1) == null ? 1 : Integer.parseInt(m.group(1));
        for (int k = 0; k < times; k++) {
            if (m.group(4) == null) {
                runEach(line, m.group(2), m.group(3), m.group(5));
            } else {
                runText(line, m.group(2), m.group(4), m.group(5));
            }
        }
    }

    /** A call with {a, b ..} among what it is given stands for one call for each of these. */
    private void runEach(String line, String name, String given, String due) {
        Matcher set = SET.matcher(given);
        if (set.find()) {
            for (String one : set.group(1).split(",")) {
                String with = given.substring(0, set.start()) + one.trim() + given.substring(set.end());
                runEach(line + " [" + with + "]", name, with, due);
            }
            return;
        }
        List<Long> numbers = new ArrayList<>();
        for (String word : given.isBlank() ? new String[0] : given.split(",")) {
            numbers.add(Call.number(word));
        }
        runOne(line, Call.of(name, numbers), due);
    }

    private void runText(String line, String name, String text, String due) {
        List<Call> feeding = Call.feeding(text);
        for (int k = 0; k < feeding.size(); k++) {
            boolean isLast = name.equals("feed") && k == feeding.size() - 1;
            runOne(line, feeding.get(k), isLast ? due : null);
        }
        if (!name.equals("feed")) {
            runOne(line, Call.of(name), due);
        }
    }

    private void runOne(String line, Call call, String due) {
        long got = call.on(bench);
        answers++;
        if (due == null && got < 0) {
            fail(title, line + " answered " + got + ", but it should prepare what follows");
        }
        if (due != null && got != Call.number(due)) {
            fail(title, line + " answered " + got);
        }
        boolean changesNothing = call.onlyLooks() || due != null && Call.number(due) < 0;
        if (changesNothing) {
            lookWhetherAllStays(line, call, due);
        } else {
            state = null;
        }
        made.add(call);
    }

    private void lookWhetherAllStays(String line, Call call, String due) {
        String name = call.method().getName();
        boolean readsTape = (name.equals("ratio") || name.equals("ladder")) && Call.number(due) != LadderMaker.FULL;
        if (readsTape) {
            state = WholeState.behind(with(Call.of("wipe")));
        } else if (state == null) {
            state = WholeState.behind(made);
        }
        states++;
        String behind = WholeState.behind(with(call));
        if (!behind.equals(state)) {
            fail(title, line + " changes " + firstUnlike(state, behind));
        }
    }

    private List<Call> with(Call last) {
        List<Call> all = new ArrayList<>(made);
        all.add(last);
        return all;
    }

    private static String firstUnlike(String before, String behind) {
        String[] one = before.split("\n");
        String[] other = behind.split("\n");
        for (int k = 0; k < one.length && k < other.length; k++) {
            if (!one[k].equals(other[k])) {
                return "\"" + one[k] + "\" into \"" + other[k] + "\"";
            }
        }
        return "how much there is";
    }

    /** All words of the sections 1 to 7, of the answers and of the promises must be quoted by a script. */
    private static void findUnquoted() {
        StringBuilder left = new StringBuilder();
        for (int k = document.indexOf("## Terms"); k < document.indexOf("## Not promised"); k++) {
            left.append(quoted[k] ? '\u0000' : document.charAt(k));
        }
        String words = NO_SENTENCE.matcher(left).replaceAll("");
        for (String piece : words.split("\u0000+")) {
            if (piece.matches(".*[A-Za-z0-9].*")) {
                fail("the document", "no script quotes: " + piece.trim());
            }
        }
    }
}
