import java.io.File;
import java.io.IOException;
import java.net.URL;
import java.net.URLClassLoader;
import java.nio.file.Files;
import java.nio.file.Path;
import java.util.ArrayList;
import java.util.Comparator;
import java.util.List;
import java.util.TreeMap;
import java.util.TreeSet;
import java.util.regex.Matcher;
import java.util.regex.Pattern;
import java.util.stream.Stream;
import javax.tools.JavaCompiler;
import javax.tools.ToolProvider;

/** What README.md says of the class's use and of running the tests is true. */
public final class ReadmeTest {
    private static final Path PAGE = Path.of("README.md");
    private static final Path DOCUMENT = Path.of("../shared/DOC.md");
    private static final Path TESTS = Path.of("src/test/java");
    private static final Pattern ANSWERED = Pattern.compile("\\w+ (\\w+) = (ledger\\..+);\\s+// ([^:\\s]+)(:.*)?");
    private static final Pattern FACE_LINE = Pattern.compile("    public (\\w+ \\w+\\([^)]*\\))(?: throws ([^;]+))?;");
    private static final Pattern ROW = Pattern.compile("\\| `(\\w+ \\w+\\([^)]*\\))` \\| ([^|]+) \\| ([^|]*)\\|");
    private static final Pattern LETTER_ROW = Pattern.compile("(?m)^\\| `(\\w)` \\| ");
    private static final Pattern LETTER_TOLD = Pattern.compile("'(\\w)' ");
    private static final Pattern TEST_LISTED = Pattern.compile("(?m)^- `(\\w+Test)`: ");
    private static final Pattern FILE_NAMED = Pattern.compile("`([A-Z]\\w+)`");
    private static final Pattern PATH_NAMED = Pattern.compile("`((?:\\.\\./shared|src)/[\\w./]+)`");

    private static final Checks checks = new Checks();

    public static void main(String[] args) throws Exception {
        String page = Files.readString(PAGE);
        Path room = Files.createTempDirectory("readme");
        try {
            example(blocks(page, "java"), room);
            commands(blocks(page, "sh"), room);
        } finally {
            empty(room);
        }
        String document = Files.readString(DOCUMENT);
        letters(page, document);
        limits(page);
        calls(page, document);
        tests(page);
        paths(page);
        checks.end();
    }

    private static List<String> blocks(String page, String language) {
        List<String> blocks = new ArrayList<>();
        Matcher block = Pattern.compile("(?s)```" + language + "\n(.*?)```").matcher(page);
        while (block.find()) {
            blocks.add(block.group(1));
        }
        return blocks;
    }

    /** Runs the example; behind each call stands its answer. */
    private static void example(List<String> blocks, Path room) throws Exception {
        checks.due("the number of examples", blocks.size(), 1);
        String lines = String.join("\n", blocks);
        List<String> calls = new ArrayList<>();
        StringBuilder pairs = new StringBuilder();
        for (String line : lines.split("\n")) {
            Matcher answered = ANSWERED.matcher(line);
            boolean isCall = line.contains("ledger.");
            checks.due("an answer stands behind '" + line + "'", !isCall || answered.matches(), true);
            if (isCall && answered.matches()) {
                calls.add(answered.group(2));
                pairs.append(answered.group(1)).append(", ").append(answered.group(3)).append(", ");
            }
        }
        Object[] answers = answersOf(lines, pairs.toString(), room);
        checks.due("the calls of the example", answers.length, 2 * calls.size());
        checks.due("the example has calls", calls.size() > 0, true);
        for (int i = 0; i + 1 < answers.length; i += 2) {
            checks.due("the example's " + calls.get(i / 2), answers[i], answers[i + 1]);
        }
    }

    /** An answer and what stands behind it, in turns. */
    private static Object[] answersOf(String lines, String pairs, Path room) throws Exception {
        Path source = room.resolve("Example.java");
        Files.writeString(source, "public final class Example {\n public static Object[] answers() {\n" + lines
            + "\nreturn new Object[] {" + pairs + "};\n }\n}\n");
        String classes = System.getProperty("java.class.path");
        JavaCompiler compiler = ToolProvider.getSystemJavaCompiler();
        int ended = compiler.run(null, null, null, "-cp", classes, "-d", room.toString(), source.toString());
        checks.due("the exit code of compiling the example", ended, 0);
        if (ended != 0) {
            return new Object[0];
        }
        try (URLClassLoader loader = new URLClassLoader(new URL[] {room.toUri().toURL()})) {
            return (Object[]) loader.loadClass("Example").getMethod("answers").invoke(null);
        }
    }

    /** The first command runs all tests, this one too, so only the others are run here; what they make is put aside. */
    private static void commands(List<String> blocks, Path room) throws IOException, InterruptedException {
        checks.due("the first command", blocks.isEmpty() ? "" : blocks.get(0), ".ci/run\n");
        checks.due(".ci/run can be run", new File(".ci/run").canExecute(), true);
        checks.due("the number of further commands", blocks.size() - 1, 1);
        for (int i = 1; i < blocks.size(); i++) {
            String command = "set -e\n" + blocks.get(i).replace(" out ", " '" + room + "/out' ");
            Process run = new ProcessBuilder("bash", "-c", command).redirectErrorStream(true).start();
            String told = new String(run.getInputStream().readAllBytes());
            checks.due("the exit code of " + blocks.get(i) + told, run.waitFor(), 0);
            checks.due("the last line of " + blocks.get(i), told.endsWith(" answers are as due\n"), true);
        }
    }

    /** The page tells the letters in the document's order, which is that in which they fit. */
    private static void letters(String page, String document) {
        String openings = document.substring(document.indexOf("Openings. "), document.indexOf("Phones. "));
        checks.due("the letters", inOrder(LETTER_ROW, page), inOrder(LETTER_TOLD, openings));
        checks.due("the number of letters", inOrder(LETTER_ROW, page).length(), 6);
    }

    private static String inOrder(Pattern pattern, String text) {
        StringBuilder all = new StringBuilder();
        Matcher letter = pattern.matcher(text);
        while (letter.find()) {
            all.append(letter.group(1));
        }
        return all.toString();
    }

    /** The most of each that the page tells is what a ledger takes until it refuses one. */
    private static void limits(String page) {
        Doorledger x = new Doorledger();
        int doors = takenBy(x::addDoor);
        int phones = takenBy(x::addPhone);
        int keys = takenBy(() -> x.addKey(1, 0, 1));
        int changes = keys + takenBy(() -> x.setDoors(0, 1));
        int audits = takenBy(() -> x.open(0, 0));
        takenBy(() -> x.pass(10000));
        String told = "There are at most " + keys + " keys, " + changes + " changes of keys, " + doors + " doors, " + phones
            + " phones and " + audits + " audits, and the time is at most " + x.time() + ".";
        checks.due("the page has '" + told + "'", page.contains(told), true);
    }

    /** How often the call answers ahead of being refused. */
    private static int takenBy(Checks.Call call) {
        int taken = 0;
        while (taken < 512 && !Checks.answerOf(call).startsWith("throws.")) {
            taken++;
        }
        return taken;
    }

    /** Each call of the document's face has a row, with what it throws in the same order. */
    private static void calls(String page, String document) {
        TreeMap<String, String> due = new TreeMap<>();
        Matcher line = FACE_LINE.matcher(document.substring(0, document.indexOf("## Terms")));
        while (line.find()) {
            due.put(line.group(1), line.group(2) == null ? "" : line.group(2));
        }
        TreeMap<String, String> got = new TreeMap<>();
        Matcher row = ROW.matcher(page);
        int rows = 0;
        while (row.find()) {
            rows++;
            got.put(row.group(1), row.group(3).replace("`", "").trim());
        }
        checks.due("the calls in the tables", got, due);
        checks.due("the number of rows", rows, due.size());
    }

    /** The page lists just the tests that stand, and names no file that does not. */
    private static void tests(String page) throws IOException {
        TreeSet<String> stand = new TreeSet<>();
        try (Stream<Path> files = Files.list(TESTS)) {
            files.map(file -> file.getFileName().toString()).filter(name -> name.endsWith("Test.java"))
                .forEach(name -> stand.add(name.replace(".java", "")));
        }
        checks.due("the tests listed", names(TEST_LISTED, page), stand);
        String ofTests = page.substring(page.indexOf("## Tests"));
        for (String name : names(FILE_NAMED, ofTests)) {
            checks.due("there is " + name, Files.exists(TESTS.resolve(name + ".java")), true);
        }
    }

    private static void paths(String page) {
        for (String path : names(PATH_NAMED, page)) {
            checks.due("there is " + path, Files.exists(Path.of(path)), true);
        }
    }

    private static TreeSet<String> names(Pattern pattern, String text) {
        TreeSet<String> names = new TreeSet<>();
        Matcher name = pattern.matcher(text);
        while (name.find()) {
            names.add(name.group(1));
        }
        return names;
    }

    private static void empty(Path room) throws IOException {
        try (Stream<Path> files = Files.walk(room)) {
            for (Path file : files.sorted(Comparator.reverseOrder()).toList()) {
                Files.delete(file);
            }
        }
    }
}
