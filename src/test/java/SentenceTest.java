import java.lang.reflect.Constructor;
import java.lang.reflect.Method;
import java.nio.charset.StandardCharsets;
import java.nio.file.Files;
import java.nio.file.Path;
import java.util.ArrayList;
import java.util.Arrays;
import java.util.HashMap;
import java.util.LinkedHashMap;
import java.util.List;
import java.util.Map;
import java.util.Set;

/**
 * The runs of src/test/sentences.txt: each answer is as due, each call that asks or is refused changes nothing else,
 * and each sentence of the document has a run. An argument: another class to be run (SlowRookWords).
 */
public final class SentenceTest {
    private static final Path RUNS = Path.of("src/test/sentences.txt");
    private static final Path DOCUMENT = Path.of("../shared/DOC.md");
    private static final int MOST_CALLS = 512;
    private static final Set<String> ASKING = Set.of("word", "acted", "order", "number", "row", "of", "count", "hits",
        "factored", "bySteps", "all", "like", "classes", "fits", "cheapest", "listed", "odds", "mean", "lots", "write",
        "paper", "judge", "told", "peek");
    private static final List<Probe> PROBES = Probe.all();

    private static int wrong;
    private static Constructor<?> maker;
    private static final Map<String, Method> METHODS = new HashMap<>();

    private static void tell(String what) {
        wrong++;
        if (wrong <= 60) System.out.println(what);
    }

    private static void useClass(String name) throws Exception {
        Class<?> used = Class.forName(name);
        maker = used.getDeclaredConstructor();
        maker.setAccessible(true);
        for (Method face : RookWords.class.getDeclaredMethods()) {
            if (!java.lang.reflect.Modifier.isPublic(face.getModifiers())) continue;
            Method method = used.getDeclaredMethod(face.getName(), face.getParameterTypes());
            method.setAccessible(true);
            METHODS.put(face.getName(), method);
        }
    }

    private static long call(Object object, String name, long[] args) throws Exception {
        Method method = METHODS.get(name);
        if (method == null) throw new IllegalArgumentException("no such call: " + name);
        Class<?>[] types = method.getParameterTypes();
        if (types.length != args.length) throw new IllegalArgumentException(name + " takes " + types.length);
        Object[] given = new Object[args.length];
        for (int a = 0; a < args.length; a++) {
            if (types[a] == long.class) given[a] = args[a];
            else given[a] = Math.toIntExact(args[a]);
        }
        return ((Number) method.invoke(object, given)).longValue();
    }

    private static void play(Script.Run run) throws Exception {
        if (run.steps().size() > MOST_CALLS) tell("a run of more than 512 calls: " + run.sentence());
        Object object = maker.newInstance();
        boolean asDue = true;
        for (Script.Step step : run.steps()) {
            long got = call(object, step.name(), step.args());
            if (step.due() != null && got != step.due()) {
                asDue = false;
                tell("promise " + run.part() + ", \"" + run.sentence() + "\", line " + step.line() + ": " + step.told()
                    + " answered " + got + ", due is " + step.due());
            }
        }
        // A run that uses an object up leaves no calls to look at it.
        if (asDue && !run.part().equals("W")) probe(run);
    }

    /** Whether nothing may be changed by a call (but THE TAPE by read(), THE PAPER by write()). */
    private static boolean leavesAll(Script.Step step) {
        return step.due() != null && (ASKING.contains(step.name()) || step.due() < 0);
    }

    private static boolean mayChange(Script.Step step, Probe probe) {
        boolean reads = step.name().equals("read") && step.due() != -1;
        boolean writes = step.name().equals("write") && step.due() != -1;
        return reads && probe.group.equals(Probe.TEXT) || writes && probe.group.equals(Probe.PAPER);
    }

    private static void probe(Script.Run run) throws Exception {
        List<Script.Step> ahead = new ArrayList<>();
        long[][] shown = null;
        for (Script.Step step : run.steps()) {
            if (!leavesAll(step)) {
                ahead.add(step);
                shown = null;
                continue;
            }
            if (shown == null) shown = show(ahead);
            ahead.add(step);
            long[][] behind = show(ahead);
            boolean same = true;
            for (int p = 0; p < behind.length; p++) {
                same &= Arrays.equals(shown[p], behind[p]);
                if (!mayChange(step, PROBES.get(p)) && !Arrays.equals(shown[p], behind[p])) {
                    tell("line " + step.line() + ": " + step.told() + " changes " + PROBES.get(p).group);
                }
            }
            if (same) ahead.remove(ahead.size() - 1);
            shown = behind;
        }
    }

    private static long[][] show(List<Script.Step> ahead) throws Exception {
        long[][] shown = new long[PROBES.size()][];
        for (int p = 0; p < shown.length; p++) {
            Probe probe = PROBES.get(p);
            if (ahead.size() + probe.asks.size() > MOST_CALLS) tell("too many calls for a look at " + probe.group);
            Object object = maker.newInstance();
            for (Script.Step step : ahead) call(object, step.name(), step.args());
            shown[p] = new long[probe.asks.size()];
            for (int a = 0; a < shown[p].length; a++) {
                shown[p][a] = call(object, probe.asks.get(a).name(), probe.asks.get(a).args());
            }
        }
        return shown;
    }

    /** The document's parts, each without headings, signs of its layout and the calls' faces. */
    private static Map<String, String> partsOfDocument() throws Exception {
        Map<String, String> parts = new LinkedHashMap<>();
        for (String part : Files.readString(DOCUMENT, StandardCharsets.UTF_8).split("(?m)^## ")) {
            String heading = part.lines().findFirst().orElse("");
            String body = part.substring(heading.length()).replaceAll("(?m)^```.*$", "")
                .replaceAll("==== \\d", "").replaceAll("\\s+", " ").strip();
            if (heading.equals("Terms")) parts.put("T", body);
            if (heading.equals("What it is")) parts.put("W", body.substring(body.indexOf("An object is used")));
            if (heading.startsWith("Promise ")) {
                parts.put(heading.substring(8, heading.indexOf(':')), body.replaceFirst("^`[^`]*`: *", ""));
            }
        }
        return parts;
    }

    private static void checkSentences(List<Script.Run> runs) throws Exception {
        Map<String, String> parts = partsOfDocument();
        Map<String, boolean[]> told = new HashMap<>();
        for (String part : parts.keySet()) told.put(part, new boolean[parts.get(part).length()]);
        String last = "";
        for (Script.Run run : runs) {
            String key = run.part() + " " + run.sentence();
            if (!key.equals(last)) markSentence(run, parts.get(run.part()), told.get(run.part()));
            last = key;
        }
        for (String part : parts.keySet()) tellUntold(part, parts.get(part), told.get(part));
    }

    private static void markSentence(Script.Run run, String part, boolean[] told) {
        int place = part == null ? -1 : part.indexOf(run.sentence());
        while (place >= 0 && told[place]) place = part.indexOf(run.sentence(), place + 1);
        if (place < 0) {
            tell("the document's part " + run.part() + " doesn't say: " + run.sentence());
            return;
        }
        Arrays.fill(told, place, place + run.sentence().length(), true);
    }

    private static void tellUntold(String name, String part, boolean[] told) {
        StringBuilder left = new StringBuilder();
        for (int p = 0; p < told.length; p++) left.append(told[p] ? '|' : part.charAt(p));
        for (String one : left.toString().split("\\|+")) {
            // Of the part that says what an object is, only the first half of a sentence can be tested.
            if (one.matches(".*\\w.*") && !name.equals("W")) tell("no run for part " + name + ": " + one.strip());
        }
    }

    public static void main(String[] args) throws Exception {
        useClass(args.length > 0 ? args[0] : "RookWords");
        List<Script.Run> runs = new Script(Files.readAllLines(RUNS, StandardCharsets.UTF_8)).runs;
        checkSentences(runs);
        for (Script.Run run : runs) play(run);
        System.out.println(wrong == 0 ? "SentenceTest: all sentences hold" : "SentenceTest: " + wrong + " are wrong");
        if (wrong != 0) System.exit(1);
    }
}
