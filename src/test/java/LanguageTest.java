import java.io.IOException;
import java.lang.management.ManagementFactory;
import java.lang.reflect.Constructor;
import java.lang.reflect.Field;
import java.lang.reflect.Method;
import java.lang.reflect.Modifier;
import java.nio.file.Files;
import java.nio.file.Path;
import java.util.ArrayList;
import java.util.Arrays;
import java.util.Collections;
import java.util.List;
import java.util.Set;
import java.util.TreeSet;
import java.util.regex.Matcher;
import java.util.regex.Pattern;

/** The rules of LANGUAGE.md that a test can look at, the document's face, and the room that calls take. */
public final class LanguageTest {
    private static final Path SOURCE = Path.of("src/main/java/LadderMaker.java");
    private static final Path DOCUMENT = Path.of("../shared/DOC.md");
    private static int wrong = 0;

    public static void main(String[] args) throws IOException {
        String code = withoutComments(Files.readString(SOURCE));
        faceIsTheDocuments();
        membersAreHidden();
        wordsAreAllowed(code);
        libraryIsAllowed(code);
        sizesAreKept(code);
        callsMakeNothing();
        System.out.println("LanguageTest: " + wrong + " rules are broken");
        if (wrong > 0) {
            System.exit(1);
        }
    }

    private static void rule(int number, boolean holds, String what) {
        if (!holds) {
            wrong++;
            System.out.println("LanguageTest, rule " + number + ": " + what);
        }
    }

    private static String withoutComments(String text) {
        return text.replaceAll("(?s)/\\*.*?\\*/", "").replaceAll("//[^\n]*", "");
    }

    private static List<Class<?>> classes() {
        List<Class<?>> all = new ArrayList<>(Arrays.asList(LadderMaker.class.getDeclaredClasses()));
        all.add(LadderMaker.class);
        return all;
    }

    private static void faceIsTheDocuments() throws IOException {
        String document = Files.readString(DOCUMENT);
        int from = document.indexOf("public final class LadderMaker");
        String face = document.substring(from, document.indexOf("```", from));
        Set<String> want = new TreeSet<>();
        Matcher m = Pattern.compile("public (int|long) (\\w+)\\(([^)]*)\\);").matcher(face);
        while (m.find()) {
            want.add(m.group(1) + " " + m.group(2) + "(" + m.group(3).replaceAll("(int|long) \\w+", "$1") + ")");
        }
        Set<String> got = new TreeSet<>();
        for (Method method : LadderMaker.class.getDeclaredMethods()) {
            if (Modifier.isPublic(method.getModifiers())) {
                String types = String.join(", ", Arrays.stream(method.getParameterTypes()).map(Class::getName).toList());
                got.add(method.getReturnType() + " " + method.getName() + "(" + types + ")");
            }
        }
        rule(1, want.size() == 45 && got.equals(want), "the methods are " + got + ", the document's " + want);
        Set<String> constants = new TreeSet<>();
        for (Field field : LadderMaker.class.getDeclaredFields()) {
            if (Modifier.isPublic(field.getModifiers())) {
                constants.add(field.getType() + " " + field.getName());
            }
        }
        Set<String> due = new TreeSet<>(List.of("int BAD", "int NOT", "int FULL", "int STATE", "int WIDE", "long NO"));
        rule(1, constants.equals(due), "the constants are " + constants);
        Constructor<?>[] made = LadderMaker.class.getConstructors();
        rule(1, made.length == 1 && made[0].getParameterCount() == 0, "one constructor");
        rule(1, Modifier.isFinal(LadderMaker.class.getModifiers()), "the class is final");
    }

    private static void membersAreHidden() {
        Set<String> face = new TreeSet<>();
        for (Method method : LadderMaker.class.getMethods()) {
            if (method.getDeclaringClass() == LadderMaker.class) {
                face.add(method.getName());
            }
        }
        for (Method method : LadderMaker.class.getDeclaredMethods()) {
            int how = method.getModifiers();
            rule(1, Modifier.isPublic(how) || Modifier.isPrivate(how), method + " can be seen");
        }
        for (Field field : LadderMaker.class.getDeclaredFields()) {
            int how = field.getModifiers();
            rule(1, Modifier.isPublic(how) && Modifier.isStatic(how) || Modifier.isPrivate(how), field + " can be seen");
        }
        for (Class<?> type : classes()) {
            rule(2, type == LadderMaker.class || Modifier.isStatic(type.getModifiers()), type + " is not static");
            for (Method method : type.getDeclaredMethods()) {
                boolean isFace = type == LadderMaker.class && Modifier.isPublic(method.getModifiers());
                rule(1, isFace || !face.contains(method.getName()), method + " bears the name of a public one");
                rule(11, method.getParameterCount() <= 7, method + " takes more than seven");
            }
            for (Field field : type.getDeclaredFields()) {
                int how = field.getModifiers();
                rule(5, !Modifier.isStatic(how) || Modifier.isFinal(how), field + " is not final");
            }
        }
    }

    private static void wordsAreAllowed(String code) {
        for (String word : List.of("throw", "throws", "try", "catch", "finally", "synchronized", "assert", "import",
                "package", "volatile", "native", "transient", "double", "float", "Object", "String", "var", "yield",
                "equals", "hashCode", "toString", "getClass", "protected", "abstract", "record")) {
            rule(6, !Pattern.compile("\\b" + word + "\\b").matcher(code).find(), "the word " + word);
        }
        rule(2, !code.contains("->") && !code.contains("::"), "a lambda or a method reference");
        rule(5, !Pattern.compile("static\\s*\\{").matcher(code).find(), "a static initialiser");
        rule(9, !Pattern.compile("while\\s*\\(true\\)|for\\s*\\(;").matcher(code).find(), "a loop without an end");
    }

    private static void libraryIsAllowed(String code) {
        Set<String> allowed = Set.of("Math.abs", "Math.min", "Math.max", "Long.compare", "Long.MIN_VALUE",
                "System.arraycopy");
        Matcher m = Pattern.compile("\\b(Math|Long|Integer|System|Arrays|Character|Boolean)\\.\\w+").matcher(code);
        while (m.find()) {
            rule(4, allowed.contains(m.group()), m.group() + " is not known here");
        }
    }

    private static void sizesAreKept(String code) {
        rule(11, classes().size() <= 12, "there are " + classes().size() + " classes");
        for (Class<?> type : classes()) {
            long fields = Arrays.stream(type.getDeclaredFields()).filter(f -> !Modifier.isStatic(f.getModifiers())).count();
            rule(11, fields <= 20, type + " has " + fields + " fields");
        }
        String[] lines = code.split("\n");
        int from = 0;
        for (int k = 0; k < lines.length; k++) {
            if (Pattern.matches("( {4}| {8})(public|private|static|int|long|boolean|void|Ratio|Ladder)\\b.*\\) \\{", lines[k])) {
                from = k;
            }
            if (lines[k].equals("    }") || lines[k].equals("        }")) {
                rule(11, k - from <= 60, "a method of " + (k - from) + " lines ends at: " + lines[from]);
                from = k;
            }
            rule(11, lines[k].length() <= 120, "a long line: " + lines[k]);
        }
    }

    /** One object's 512 calls, over and over: the room that they all share has no place for what calls would make. */
    private static void callsMakeNothing() {
        var threads = (com.sun.management.ThreadMXBean) ManagementFactory.getThreadMXBean();
        LadderMaker x = new LadderMaker();
        long sum = useAll(x);
        long least = Long.MAX_VALUE;
        for (int k = 0; k < 20; k++) {
            long before = threads.getCurrentThreadAllocatedBytes();
            sum += useAll(x);
            least = Math.min(least, threads.getCurrentThreadAllocatedBytes() - before);
        }
        rule(12, least < 512, "the calls make " + least + " bytes of objects");
        List<LadderMaker> many = new ArrayList<>(Collections.nCopies(100, null));
        long before = threads.getCurrentThreadAllocatedBytes();
        for (int k = 0; k < 100; k++) {
            many.set(k, new LadderMaker());
        }
        long each = (threads.getCurrentThreadAllocatedBytes() - before) / 100;
        rule(12, each < 32768 && sum != 1 && many.size() == 100, "a new object takes " + each + " bytes");
    }

    private static void type(LadderMaker x, int a, int b) {
        x.wipe();
        x.feed(a, 4);
        x.feed(b, 4);
    }

    private static long useAll(LadderMaker x) {
        x.forget(0);
        x.forget(1);
        type(x, 0x6C312C43, 0x312F323B);
        long sum = x.feed('r', 1) + x.feed('3', 1) + x.ladder();
        type(x, 0x73332B32, 0x732F7332);
        sum += x.feed('+' * 256 + '1', 2) + x.ratio();
        type(x, 0x73322B31, 0x2F73322B);
        sum += x.feed('s', 1) + x.ratio();
        sum += x.divide(0, 0) + x.divide(0, 1) + x.invert(0) + x.stretch(0, 1, 2, 3, 4) + x.shift(0, 1, 2);
        sum += x.degree(0, 0) + x.coefficient(0, 0, 0, 0) + x.same(0, 1);
        sum += x.parts(0) + x.end(0) + x.part(0, 0, 0) + x.value(0, 0, 0) + x.multiply(0);
        sum += x.scale(0, 1, 2, 3, 4) + x.band(0, 1, 2, 3, 4) + x.dull(0, 1, 2) + x.turn(0);
        sum += x.stock(0, 1, 2, 3, 4) + x.stock(1, 1, 2, 3, 4) + x.fit(0) + x.worth(0, 1, 2, 0);
        sum += x.close(0, 1, 0, 0) + x.react(0, 1, 2, 0) + x.first(0, 2) + x.bin(0, 0, 0) + x.nearest(0, 1, 1, 0);
        sum += x.build(0, 3) + x.want(0, 0) + x.arrive(3) + x.cost(0) + x.unlike(0, -1, 0) + x.unlike(0, 0, 0);
        sum += x.hold(0, 0, 0) + x.taken(0, 0) + x.drop(0) + x.row(1, 40) + x.put(1, 0, 5) + x.get(1, 0);
        sum += x.copy(1, 0, 1, 1, 3) + x.judge(1, 0) + x.image() + x.undo() + x.count(0);
        return sum;
    }
}
