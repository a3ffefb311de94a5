import java.util.ArrayList;
import java.util.List;
import java.util.Map;

/**
 * Runs of calls told as text. A line that begins with = tells a part of the document and a sentence of it (a line
 * that begins with =+ more of the sentence); the lines behind it are the calls of a new object:
 *
 * <pre>
 *   letter(0, 1) = 1        a call, and the answer that is due; without = a call whose answer doesn't matter
 *   count(0, {0..3}) = 1 5 6 2   a call for each of several numbers; one answer: for all of them
 *   letter(?, 0) = NONE     ? stands for {-1 6 MIN MAX}: none of the six WORDS, BOARDS, TAPES
 *   12 x letter(0, 0)       so often; 12 x { .. } on several lines
 *   new                     another object
 *   put 0 UUD               a WORD's letters;      spelled 0 = UUD    they are due
 *   lay 0 3 1               a BOARD's rows;        rows 0 = 3 1       they are due
 *   text (UD)2              bytes for THE TAPE;    written = U2D      what is due on THE PAPER
 *   constant 56936          THE SUM becomes that, times nothing;  WORD 0 is used for it
 *   brim 1 8                see PromiseTest: three letters U ahead of 10^15
 * </pre>
 */
final class Script {
    /** One call; due is null where the answer doesn't matter. */
    record Step(String name, long[] args, Long due, int line) {
        String told() {
            StringBuilder all = new StringBuilder(name).append('(');
            for (int a = 0; a < args.length; a++) all.append(a == 0 ? "" : ", ").append(args[a]);
            return all.append(')').toString();
        }
    }

    /** The calls of one object. */
    record Run(String part, String sentence, List<Step> steps) {
    }

    private static final Map<String, Long> NAMES = Map.ofEntries(
        Map.entry("NONE", -1L), Map.entry("BAD", -2L), Map.entry("STATE", -3L), Map.entry("FULL", -4L),
        Map.entry("OVER", -6L), Map.entry("NOTHING", -11L), Map.entry("CAST", -12L), Map.entry("PLACE", -13L),
        Map.entry("SIZE", -14L), Map.entry("NO", Long.MIN_VALUE), Map.entry("MIN", (long) Integer.MIN_VALUE),
        Map.entry("MAX", (long) Integer.MAX_VALUE), Map.entry("LMIN", Long.MIN_VALUE),
        Map.entry("LMAX", Long.MAX_VALUE));

    final List<Run> runs = new ArrayList<>();
    private final List<String> lines;
    private String part;
    private String sentence;
    private List<Step> steps;
    private int at;

    Script(List<String> lines) {
        this.lines = lines;
        while (at < lines.size()) {
            takeLine();
            at++;
        }
        endRun();
    }

    private void endRun() {
        if (steps == null) return;
        if (steps.isEmpty()) throw fault("no calls ahead of this");
        runs.add(new Run(part, sentence, steps));
        steps = null;
    }

    private IllegalArgumentException fault(String what) {
        return new IllegalArgumentException("line " + (at + 1) + ": " + what);
    }

    private void takeLine() {
        String line = lines.get(at).strip();
        if (line.startsWith("=+ ")) {
            sentence += " " + line.substring(3);
        } else if (line.startsWith("= ")) {
            endRun();
            String[] parts = line.split(" ", 3);
            part = parts[1];
            sentence = parts[2];
            steps = new ArrayList<>();
        } else {
            takeRow(line);
        }
    }

    private void takeRow(String line) {
        if (line.isEmpty() || line.startsWith("#")) return;
        String[] words = line.split(" +");
        if (words.length > 2 && words[1].equals("x")) {
            takeOften(Integer.parseInt(words[0]), line.substring(line.indexOf(" x ") + 3).strip());
            return;
        }
        String rest = line.contains("=") ? line.substring(line.indexOf('=') + 1).strip() : "";
        switch (words[0]) {
            case "new" -> {
                endRun();
                steps = new ArrayList<>();
            }
            case "put" -> put(number(words[1]), words.length > 2 ? words[2] : "");
            case "lay" -> lay(words);
            case "text" -> {
                for (char sign : words[1].toCharArray()) call("feed", sign);
            }
            case "constant" -> constant(number(words[1]));
            case "brim" -> brim(number(words[1]), number(words[2]));
            case "spelled" -> spelled(number(words[1]), rest);
            case "rows" -> rows(number(words[1]), rest);
            case "written" -> written(rest);
            default -> takeCall(line);
        }
    }

    private void takeOften(int often, String row) {
        int from = at;
        if (!row.equals("{")) {
            for (int o = 0; o < often; o++) takeRow(row);
            return;
        }
        for (int o = 0; o < often; o++) {
            at = from + 1;
            while (!lines.get(at).strip().equals("}")) {
                takeRow(lines.get(at).strip());
                at++;
            }
        }
    }

    private void takeCall(String line) {
        int open = line.indexOf('(');
        int close = line.lastIndexOf(')');
        if (open < 1 || close < open) throw fault("no call: " + line);
        String name = line.substring(0, open);
        String inside = line.substring(open + 1, close).strip();
        String behind = line.substring(close + 1).strip();
        if (!behind.isEmpty() && !behind.startsWith("= ")) throw fault("no answer: " + line);
        List<long[]> calls = new ArrayList<>();
        calls.add(new long[0]);
        if (!inside.isEmpty()) for (String one : inside.split(", *")) calls = withEach(calls, numbers(one));
        long[] due = behind.isEmpty() ? null : numbers("{" + behind.substring(2).strip() + "}");
        if (due != null && due.length != 1 && due.length != calls.size()) {
            throw fault(calls.size() + " calls, " + due.length + " answers");
        }
        for (int c = 0; c < calls.size(); c++) {
            steps.add(new Step(name, calls.get(c), due == null ? null : due[due.length == 1 ? 0 : c], at + 1));
        }
    }

    private static List<long[]> withEach(List<long[]> calls, long[] numbers) {
        List<long[]> all = new ArrayList<>();
        for (long[] call : calls) {
            for (long one : numbers) {
                long[] longer = java.util.Arrays.copyOf(call, call.length + 1);
                longer[call.length] = one;
                all.add(longer);
            }
        }
        return all;
    }

    private long[] numbers(String told) {
        if (told.equals("?")) return new long[] {-1, 6, Integer.MIN_VALUE, Integer.MAX_VALUE};
        if (!told.startsWith("{")) return new long[] {number(told)};
        List<Long> all = new ArrayList<>();
        for (String one : told.substring(1, told.length() - 1).strip().split(" +")) {
            int dots = one.indexOf("..");
            if (dots < 0) {
                all.add(number(one));
                continue;
            }
            for (long n = number(one.substring(0, dots)); n <= number(one.substring(dots + 2)); n++) all.add(n);
        }
        return all.stream().mapToLong(Long::longValue).toArray();
    }

    private long number(String told) {
        if (NAMES.containsKey(told)) return NAMES.get(told);
        if (told.length() == 3 && told.startsWith("'")) return told.charAt(1);
        return Long.decode(told);
    }

    private void call(String name, long... args) {
        steps.add(new Step(name, args, null, at + 1));
    }

    private void due(long due, String name, long... args) {
        steps.add(new Step(name, args, due, at + 1));
    }

    private void put(long word, String letters) {
        call("empty", word);
        for (char letter : letters.toCharArray()) call("letter", word, letter == 'U' ? 0 : 1);
    }

    private void lay(String[] words) {
        long board = number(words[1]);
        int side = words.length - 2;
        call("side", board, side);
        for (int i = 0; i < side; i++) {
            for (int j = 0; j < side; j++) {
                if ((number(words[i + 2]) >> j & 1) != 0) call("cell", board, i, j);
            }
        }
    }

    private void spelled(long word, String letters) {
        due(letters.length(), "word", word, -1);
        for (int i = 0; i < letters.length(); i++) due(letters.charAt(i) == 'U' ? 0 : 1, "word", word, i);
        due(-5, "word", word, letters.length());
    }

    private void rows(long board, String rows) {
        long[] due = numbers("{" + rows + "}");
        due(due.length, "of", board, 0);
        for (int i = 0; i < due.length; i++) due(due[i], "row", board, i);
        due(-1, "row", board, due.length);
    }

    private void written(String bytes) {
        due(bytes.length(), "told", 4);
        for (int i = 0; i < bytes.length(); i++) due(bytes.charAt(i), "paper", i);
        due(-1, "paper", bytes.length());
    }

    /** By differences of D .. U U U U U U .. D, which come to 720. */
    private void constant(long number) {
        int[] often = {1, 6, 15, 20, 15, 6, 1};
        for (int a = 0; a <= 6; a++) {
            put(0, "D".repeat(a) + "UUUUUU" + "D".repeat(6 - a));
            for (int t = 0; t < often[a]; t++) call("add", 0, a % 2 == 0 ? number / 720 : -(number / 720));
        }
        call("empty", 0);
        call("add", 0, number % 720 / 10);
        for (int t = 0; t < 9; t++) call("add", 0, number % 720 / 10);
        call("add", 0, number % 10);
    }

    private void brim(long sign, long last) {
        constant(56936 * sign);
        put(1, "DDDDDDDDDDDD");
        call("times", 1);
        long[] often = {9, 11, 6, 12, 11, 9, 6, 2, last};
        for (int m = 0; m < often.length; m++) {
            put(3, "U");
            call("times", 3);
            put(3, "D".repeat(11 - m));
            call("add", 3, often[m] * sign);
        }
        put(3, "UUU");
        put(4, "UUUDDD");
    }
}
