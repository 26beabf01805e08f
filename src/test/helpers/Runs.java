import java.lang.reflect.InvocationTargetException;
import java.lang.reflect.Method;
import java.util.ArrayList;
import java.util.HashMap;
import java.util.List;
import java.util.Map;
import java.util.regex.Matcher;
import java.util.regex.Pattern;

/**
 * Runs of calls written as text, a row a call on one new object, with the answer that is due:
 *
 * <pre>
 * cut(0, 1, {0 300}) = $3       # braces: a row for each; $3: the answer is the third argument
 * write({0..7}, 1, 0, 5) = 0    # a range
 * cut(NODRUM, 1, 3) = NONE      # a row for each number that is no drum
 * 3x turn(0, 1, 0, 1) = 0       # three times
 * read(0, 3, 0) = f0.125        # the bits of a float
 * read(0, 1, 300) = BEYOND      # a refusal, by its name
 * </pre>
 *
 * Behind each row state() is asked too: it tells the refusal that is due, or 0. And behind each refusal the object
 * is looked at beside one on which the refused call was never made: every answer must be the same. That look is a
 * sample: nine places of a drum's track, two of a tooth, and who shares a track by PLACE 0 and the first three teeth.
 */
final class Runs {
    // Each row is two calls with its state(), and an object is good for 512.
    private static final int MOST_ROWS = 256;
    // On either side of what there is, far off, and where the lowest 8 or 16 bits alone would be one.
    private static final String NO_DRUM = "{-1 8 -8 256 65543 MIN MAX}";
    private static final String NO_KIND = "{-1 5 -5 256 65540 MIN MAX}";
    private static final String NO_COMB = "{-1 4 -4 256 65539 MIN MAX}";
    private static final List<String> REFUSALS = List.of("NONE", "LACKING", "BEYOND", "SIZE", "BOUND");
    private static final List<String> ANSWER_0 = List.of("read", "cell", "heard");
    private static final Pattern ROW = Pattern.compile("(?:(\\d+)x )?(\\w+)\\(([^)]*)\\) = (\\S+)");
    private static final Pattern BRACES = Pattern.compile("\\{([^}]*)\\}");
    private static final Map<String, Method> FACE = new HashMap<>();

    static {
        for (Method m : MusicBoxes.class.getMethods()) {
            FACE.put(m.getName(), m);
        }
    }

    private static int sentences = 0;
    private static int asked = 0;
    private static int wrong = 0;

    private record Row(String text, Method method, Object[] arguments, long answer, int state) {
        boolean isRefusal() {
            return state != 0 && !method.getName().equals("state");
        }
    }

    private Runs() {
    }

    /** A sentence of the document and a run of calls on a new object that would show it broken. */
    static void run(String sentence, String text) {
        sentences++;
        List<Row> rows = new ArrayList<>();
        String spelled = text.replace("NODRUM", NO_DRUM).replace("NOKIND", NO_KIND).replace("NOCOMB", NO_COMB);
        for (String line : spelled.split("\n")) {
            String row = line.replaceAll("#.*", "").trim();
            if (!row.isEmpty()) {
                expand(row, rows);
            }
        }
        if (rows.isEmpty() || rows.size() > MOST_ROWS) {
            tellWrong(sentence + ": a run of " + rows.size() + " rows");
            return;
        }
        answersAreDue(sentence, rows);
        refusalsDoNothing(sentence, rows);
    }

    /** The run once for each KIND, put where it says 'kind'; 'one' is what read() tells of a written 1. */
    static void eachKind(String sentence, String text) {
        for (int kind = 0; kind < 5; kind++) {
            String one = kind == 3 ? "f0.125" : "1";
            run(sentence + " (kind " + kind + ")",
                text.replaceAll("\\bkind\\b", "" + kind).replaceAll("\\bone\\b", one));
        }
    }

    static void due(String what, long got, long want) {
        asked++;
        if (got != want) {
            tellWrong(what + " answered " + got + ", due is " + want);
        }
    }

    static void end() {
        System.out.println(sentences + " runs, " + asked + " answers looked at, " + wrong + " not as due");
        if (wrong != 0 || sentences == 0) {
            System.exit(1);
        }
    }

    private static void tellWrong(String what) {
        wrong++;
        System.out.println(what);
    }

    private static void expand(String row, List<Row> rows) {
        Matcher braces = BRACES.matcher(row);
        if (!braces.find()) {
            rows.addAll(parse(row));
            return;
        }
        for (String one : alternatives(braces.group(1))) {
            expand(row.substring(0, braces.start()) + one + row.substring(braces.end()), rows);
        }
    }

    private static List<String> alternatives(String list) {
        List<String> all = new ArrayList<>();
        for (String part : list.trim().split(" +")) {
            int dots = part.indexOf("..");
            if (dots < 0) {
                all.add(part);
                continue;
            }
            int last = Integer.parseInt(part.substring(dots + 2));
            for (int i = Integer.parseInt(part.substring(0, dots)); i <= last; i++) {
                all.add("" + i);
            }
        }
        return all;
    }

    private static List<Row> parse(String text) {
        Matcher row = ROW.matcher(text);
        if (!row.matches() || !FACE.containsKey(row.group(2))) {
            throw new IllegalArgumentException("no row: " + text);
        }
        int times = row.group(1) == null ? 1 : Integer.parseInt(row.group(1));
        String name = row.group(2);
        String[] words = row.group(3).isBlank() ? new String[0] : row.group(3).trim().split(", *");
        Object[] arguments = new Object[words.length];
        for (int i = 0; i < words.length; i++) {
            arguments[i] = (int) number(words[i]);
        }
        String due = row.group(4);
        due = due.startsWith("$") ? words[Integer.parseInt(due.substring(1)) - 1] : due;
        int refusal = REFUSALS.contains(due) ? -1 - REFUSALS.indexOf(due) : 0;
        long answer = refusal == 0 ? number(due) : ANSWER_0.contains(name) ? 0 : refusal;
        int state = name.equals("state") ? (int) answer : refusal;
        String called = name + "(" + String.join(", ", words) + ")";
        List<Row> rows = new ArrayList<>();
        for (int i = 0; i < times; i++) {
            rows.add(new Row(called, FACE.get(name), arguments, answer, state));
        }
        return rows;
    }

    private static long number(String word) {
        switch (word) {
            case "MIN":
                return Integer.MIN_VALUE;
            case "MAX":
                return Integer.MAX_VALUE;
            default:
                return word.startsWith("f") ? Float.floatToRawIntBits(Float.parseFloat(word.substring(1)))
                    : Long.parseLong(word);
        }
    }

    private static long call(MusicBoxes x, Row row) {
        try {
            return ((Number) row.method.invoke(x, row.arguments)).longValue();
        } catch (InvocationTargetException e) {
            tellWrong(row.text + " threw " + e.getCause());
            return Long.MIN_VALUE;
        } catch (IllegalAccessException e) {
            throw new IllegalStateException(e);
        }
    }

    private static void answersAreDue(String sentence, List<Row> rows) {
        MusicBoxes x = new MusicBoxes();
        for (int i = 0; i < rows.size(); i++) {
            Row row = rows.get(i);
            String where = sentence + ": row " + (i + 1) + ", " + row.text;
            due(where, call(x, row), row.answer);
            due(where + ", then state()", x.state(), row.state);
        }
    }

    private static void refusalsDoNothing(String sentence, List<Row> rows) {
        List<Long> before = null;
        for (int i = 0; i < rows.size(); i++) {
            if (!rows.get(i).isRefusal()) {
                before = null;
                continue;
            }
            before = before == null ? lookAfter(rows.subList(0, i)) : before;
            List<Long> after = lookAfter(rows.subList(0, i + 1));
            asked++;
            if (!before.equals(after)) {
                tellWrong(sentence + ": row " + (i + 1) + ", " + rows.get(i).text + " was refused and did something");
            }
            before = after;
        }
    }

    /** What the looks below see after these rows; each on an object of its own, for its 512 calls. */
    private static List<Long> lookAfter(List<Row> rows) {
        List<Long> seen = new ArrayList<>();
        for (int drum = 0; drum < 8; drum++) {
            lookAtDrum(made(rows), drum, seen);
            lookAtSharing(made(rows), drum, seen);
        }
        for (int c = 0; c < 4; c++) {
            lookAtComb(made(rows), c, seen);
        }
        return seen;
    }

    private static MusicBoxes made(List<Row> rows) {
        MusicBoxes x = new MusicBoxes();
        for (Row row : rows) {
            call(x, row);
        }
        return x;
    }

    private static void lookAtDrum(MusicBoxes x, int drum, List<Long> seen) {
        lookAtHeard(x, drum, seen);
        for (int kind = 0; kind < 5; kind++) {
            int n = x.places(drum, kind);
            seen.add((long) n);
            for (int k : new int[] {0, 1, 2, 3, 4, n / 2, n - 3, n - 2, n - 1}) {
                seen.add((long) x.read(drum, kind, k));
            }
        }
        seen.add((long) x.play(drum, 20));
        lookAtHeard(x, drum, seen);
        seen.add((long) x.quiet(drum));
        seen.add((long) x.head(drum, 0));
    }

    private static void lookAtHeard(MusicBoxes x, int drum, List<Long> seen) {
        for (int what = 0; what <= 6; what++) {
            seen.add(x.heard(drum, what));
        }
    }

    /** Who else has the drum's tracks: what is written here shows there. */
    private static void lookAtSharing(MusicBoxes x, int drum, List<Long> seen) {
        for (int kind = 0; kind < 5; kind++) {
            for (int v : new int[] {0, 9}) {
                x.write(drum, kind, 0, v);
                for (int other = 0; other < 8; other++) {
                    seen.add((long) x.read(other, kind, 0));
                }
                for (int tooth = 0; tooth < 12; tooth++) {
                    seen.add((long) x.cell(tooth % 4, tooth / 4, 0));
                }
            }
        }
    }

    private static void lookAtComb(MusicBoxes x, int c, List<Long> seen) {
        for (int what = 0; what <= 3; what++) {
            seen.add((long) x.about(c, what));
        }
        for (int tooth = 0; tooth < x.about(c, 1) && tooth < 40; tooth++) {
            seen.add((long) x.cell(c, tooth, 0));
            seen.add((long) x.cell(c, tooth, 1));
            seen.add((long) x.loosen(c, tooth));
        }
    }
}
