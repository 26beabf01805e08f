import java.io.IOException;
import java.io.UncheckedIOException;
import java.lang.reflect.Method;
import java.lang.reflect.Modifier;
import java.nio.file.Files;
import java.nio.file.Path;
import java.util.ArrayList;
import java.util.Comparator;
import java.util.List;
import java.util.Map;
import java.util.Random;
import java.util.Set;
import java.util.TreeMap;
import java.util.TreeSet;
import java.util.regex.Matcher;
import java.util.regex.Pattern;
import java.util.stream.Collectors;
import java.util.stream.Stream;

/** What README.md says is so, where a program can tell: answers, arguments, refusals, commands; not its words. */
public final class ReadmeTest {
    private static final String[] REFUSALS = {"NONE", "LACKING", "BEYOND", "SIZE", "BOUND"};
    private static final Pattern EXAMPLE_ROW = Pattern.compile("boxes\\.(\\w+)\\(([^)]*)\\); *// (-?\\w+)\\b.*");
    private static final Pattern CALL_ROW = Pattern.compile("\\| `(\\w+)\\(([^)]*)\\)` \\|[^|]*\\| ([^|]*) \\|");
    private static final Pattern REFUSAL_ROW = Pattern.compile("\\| `(\\w+)` \\| (-\\d) \\|[^|]*\\|");
    // Few and low, so that random arguments often find tracks and teeth that are there ...
    private static final int[] LOW = {0, 0, 0, 1, 1, 3, 3};
    // ... and, now and then, what is out of some range.
    private static final int[] EDGES = {-1, 8, 21, 41, 301, 4001, 8000001};
    private static final int RUNS = 1000;
    private static final int CALLS = 256;

    private static final Map<String, Method> FACE = new TreeMap<>();
    private static int asked = 0;
    private static int wrong = 0;

    public static void main(String[] args) throws Exception {
        for (Method m : MusicBoxes.class.getDeclaredMethods()) {
            if (Modifier.isPublic(m.getModifiers())) {
                FACE.put(m.getName(), m);
            }
        }
        String page = Files.readString(Path.of("README.md"));
        exampleAnswersAsWritten(page);
        tableHasTheFace(page);
        tableHasTheRefusals(page);
        testsAreNamed(page);
        commandsRun(page);
        System.out.println(asked + " sayings of README.md looked at, " + wrong + " not so");
        if (wrong != 0) {
            System.exit(1);
        }
    }

    private static void same(String what, Object got, Object want) {
        asked++;
        if (!got.equals(want)) {
            wrong++;
            System.out.println(what + ": README.md says " + want + ", but it is " + got);
        }
    }

    private static List<String> blocks(String page, String language) {
        List<String> found = new ArrayList<>();
        Matcher block = Pattern.compile("(?s)```" + language + "\n(.*?)```").matcher(page);
        while (block.find()) {
            found.add(block.group(1));
        }
        return found;
    }

    private static long call(MusicBoxes x, String name, Object[] arguments) throws Exception {
        return ((Number) FACE.get(name).invoke(x, arguments)).longValue();
    }

    private static void exampleAnswersAsWritten(String page) throws Exception {
        List<String> examples = blocks(page, "java");
        same("examples", examples.size(), 1);
        MusicBoxes x = new MusicBoxes();
        String[] lines = examples.get(0).split("\n");
        same("the first row", lines[0], "MusicBoxes boxes = new MusicBoxes();");
        for (int i = 1; i < lines.length; i++) {
            Matcher row = EXAMPLE_ROW.matcher(lines[i]);
            if (!row.matches()) {
                same("a row of the example", "no call with its answer", lines[i]);
                continue;
            }
            Object[] arguments = Stream.of(row.group(2).split(", *")).filter(a -> !a.isEmpty())
                .map(Integer::valueOf).toArray();
            same(lines[i], call(x, row.group(1), arguments), number(row.group(3)));
        }
    }

    private static long number(String word) {
        for (int i = 0; i < REFUSALS.length; i++) {
            if (REFUSALS[i].equals(word)) {
                return -1 - i;
            }
        }
        return Long.parseLong(word);
    }

    private static void tableHasTheFace(String page) {
        Map<String, Integer> written = new TreeMap<>();
        Matcher row = CALL_ROW.matcher(page);
        while (row.find()) {
            written.put(row.group(1), row.group(2).isEmpty() ? 0 : row.group(2).split(", ").length);
        }
        Map<String, Integer> real = new TreeMap<>();
        FACE.forEach((name, m) -> real.put(name, m.getParameterCount()));
        same("the calls and how many arguments they take", real, written);
        Map<String, String> refusals = new TreeMap<>();
        Matcher refusal = REFUSAL_ROW.matcher(page);
        while (refusal.find()) {
            refusals.put(refusal.group(1), refusal.group(2));
        }
        same("the refusals and their numbers", Map.of("NONE", "" + MusicBoxes.NONE, "LACKING", "" + MusicBoxes.LACKING,
            "BEYOND", "" + MusicBoxes.BEYOND, "SIZE", "" + MusicBoxes.SIZE, "BOUND", "" + MusicBoxes.BOUND), refusals);
    }

    /** Each call's refusals in the table are those that many calls, drawn from fixed seeds, do meet. */
    private static void tableHasTheRefusals(String page) throws Exception {
        Map<String, Set<Integer>> met = refusalsMet();
        Matcher row = CALL_ROW.matcher(page);
        while (row.find()) {
            String said = met.get(row.group(1)).stream().sorted(Comparator.reverseOrder())
                .map(code -> REFUSALS[-1 - code]).collect(Collectors.joining(", "));
            same("the refusals of " + row.group(1), said.isEmpty() ? "none" : said, row.group(3));
        }
    }

    private static Map<String, Set<Integer>> refusalsMet() throws Exception {
        Map<String, Set<Integer>> met = new TreeMap<>();
        FACE.keySet().forEach(name -> met.put(name, new TreeSet<>()));
        List<String> names = new ArrayList<>(FACE.keySet());
        names.remove("state");
        for (int run = 0; run < RUNS; run++) {
            Random random = new Random(run);
            MusicBoxes x = new MusicBoxes();
            for (int i = 0; i < CALLS; i++) {
                String name = names.get(random.nextInt(names.size()));
                Object[] arguments = new Object[FACE.get(name).getParameterCount()];
                for (int a = 0; a < arguments.length; a++) {
                    int[] drawn = random.nextInt(4) == 0 ? EDGES : LOW;
                    arguments[a] = drawn[random.nextInt(drawn.length)];
                }
                call(x, name, arguments);
                if (x.state() != 0) {
                    met.get(name).add(x.state());
                }
            }
        }
        return met;
    }

    private static void testsAreNamed(String page) throws IOException {
        Set<String> real = new TreeSet<>();
        try (Stream<Path> files = Files.list(Path.of("src/test/java"))) {
            files.forEach(file -> real.add(file.getFileName().toString().replace(".java", "")));
        }
        Set<String> written = new TreeSet<>();
        Matcher name = Pattern.compile("`(\\w+Test)`").matcher(page);
        while (name.find()) {
            written.add(name.group(1));
        }
        same("the tests", real, written);
    }

    /** In a copy of the sources, as a command may leave files; .ci/run is running this already, so it is not run. */
    private static void commandsRun(String page) throws Exception {
        List<String> commands = blocks(page, "sh");
        same("whether .ci/run is named", commands.remove(".ci/run\n"), true);
        same("whether .ci/run can be run", Files.isExecutable(Path.of(".ci/run")), true);
        Path copy = Files.createTempDirectory("readme");
        try {
            copyTree(Path.of("src"), copy.resolve("src"));
            for (String command : commands) {
                Process process = new ProcessBuilder("sh", "-e", "-c", command).directory(copy.toFile())
                    .redirectErrorStream(true).start();
                String told = new String(process.getInputStream().readAllBytes());
                same(command + told, "exit " + process.waitFor(), "exit 0");
            }
        } finally {
            deleteTree(copy);
        }
    }

    private static void copyTree(Path from, Path to) throws IOException {
        for (Path path : treeOf(from)) {
            Files.copy(path, to.resolve(from.relativize(path)));
        }
    }

    private static void deleteTree(Path root) throws IOException {
        List<Path> paths = treeOf(root);
        for (int i = paths.size() - 1; i >= 0; i--) {
            Files.delete(paths.get(i));
        }
    }

    /** A folder comes before what is in it. */
    private static List<Path> treeOf(Path root) {
        try (Stream<Path> paths = Files.walk(root)) {
            return paths.collect(Collectors.toList());
        } catch (IOException e) {
            throw new UncheckedIOException(e);
        }
    }
}
