import java.lang.reflect.Method;
import java.util.Arrays;
import java.util.HashMap;
import java.util.Map;
import java.util.Random;

/** Long runs of calls, drawn from fixed seeds, on the program and on SlowRookWords: both must answer alike. */
public final class ModelTest {
    /** Each call with what its arguments are drawn from; a number in front: how much likelier it is than 1. */
    private static final String[] CALLS = {
        "4 letter six bit", "1 empty six", "4 make six kind seven", "3 join six six", "2 turn six",
        "3 word six place", "3 acted six power bit", "3 order six count", "1 clear", "4 add six often",
        "4 times six", "4 number count count", "2 side six side", "6 cell six column column", "3 board six six",
        "4 steps six side heights", "2 other six", "2 turned six", "2 flipped six", "4 row six column",
        "5 of six five", "3 count six count", "3 hits six count", "2 factored six power", "3 bySteps six power",
        "3 all side number column", "3 like six bit", "3 classes side class bit", "2 see count many",
        "3 fits side bit", "4 weight column column weight", "4 cheapest six count column",
        "4 listed six count at column", "2 odds six bit", "2 mean six bit", "3 lots six lots int bit",
        "6 feed sign", "2 read six", "3 write six", "3 paper place", "3 undo", "3 judge six place six",
        "1 image", "1 restore", "4 told seven", "2 tape six sort items", "4 item six items long",
        "3 peek six items", "3 shift six items six items items"
    };
    private static final int[] EDGES = {Integer.MIN_VALUE, Integer.MAX_VALUE, -100, 100, 1 << 16, -3};
    private static final String SIGNS = "UUUDDD(()))0123456789";

    private final Random random;
    private final RookWords quick = new RookWords();
    private final SlowRookWords slow = new SlowRookWords();
    private int wrong;
    private final StringBuilder run = new StringBuilder();

    private ModelTest(long seed) {
        random = new Random(seed);
    }

    private int below(int bound) {
        return random.nextInt(bound);
    }

    /** From just below low to just above high, mostly inside. */
    private int around(int low, int high) {
        int drawn = below(14);
        if (drawn == 0) return low - 1;
        if (drawn == 1) return high + 1;
        return low + below(high - low + 1);
    }

    private int drawInt(String from) {
        if (below(150) == 0) return EDGES[below(EDGES.length)];
        switch (from) {
            case "six": return below(3) == 0 ? around(0, 5) : below(2);
            case "bit": return below(25) == 0 ? around(0, 1) : below(2);
            case "kind": return around(0, 5);
            case "seven": return around(0, 6);
            case "place": return around(-2, 11);
            case "power": return around(0, 20);
            case "count": return below(3) == 0 ? around(0, 12) : around(0, 4);
            case "often": return below(3) == 0 ? around(-99, 99) : around(-2, 2);
            case "side": return around(1, 6);
            case "column": return below(2) == 0 ? around(-1, 5) : below(3);
            case "heights": return drawHeights();
            case "five": return around(0, 4);
            case "number": return below(2) == 0 ? around(0, 19) : around(0, 923);
            case "class": return below(2) == 0 ? around(-1, 11) : around(-1, 250);
            case "many": return below(2) == 0 ? around(0, 9) : below(2) == 0 ? around(0, 9999) : below(60);
            case "weight": return around(0, 9);
            case "at": return below(2) == 0 ? around(0, 5) : around(0, 95);
            case "lots": return around(1, 40);
            case "int": return random.nextInt();
            case "sign": return below(30) == 0 ? around(0, 127) : SIGNS.charAt(below(SIGNS.length()));
            case "sort": return below(3) == 0 ? around(-1, 4) : 1;
            case "items": return below(3) == 0 ? around(0, 60) : below(8);
            default: throw new IllegalStateException(from);
        }
    }

    private int drawHeights() {
        int digits = 0;
        int height = 0;
        int many = 1 + below(6);
        for (int i = 0; i < many; i++) {
            height = below(12) == 0 ? below(8) : Math.min(6, height + below(3));
            digits = digits * 10 + height;
        }
        return below(30) == 0 ? -digits : digits;
    }

    private Object draw(String from) {
        if (from.equals("long")) {
            return below(2) == 0 ? random.nextLong() : Long.valueOf(below(2) == 0 ? 1 : below(40));
        }
        return drawInt(from);
    }

    private void call(String name, Object... args) throws Exception {
        Class<?>[] types = new Class<?>[args.length];
        for (int a = 0; a < args.length; a++) types[a] = args[a] instanceof Long ? long.class : int.class;
        Method one = RookWords.class.getMethod(name, types);
        Method two = SlowRookWords.class.getDeclaredMethod(name, types);
        two.setAccessible(true);
        long got = ((Number) one.invoke(quick, args)).longValue();
        long want = ((Number) two.invoke(slow, args)).longValue();
        run.append(name).append(Arrays.toString(args)).append(" = ").append(want).append('\n');
        if (got != want) {
            wrong++;
            System.out.println(name + Arrays.toString(args) + " answered " + got + ", due is " + want);
        }
    }

    private void callDrawn(String line) throws Exception {
        String[] parts = line.split(" ");
        Object[] args = new Object[parts.length - 2];
        for (int a = 0; a < args.length; a++) args[a] = draw(parts[a + 2]);
        call(parts[1], args);
    }

    /** A whole text, well formed more often than bytes drawn one by one are. */
    private String drawText(int open) {
        StringBuilder made = new StringBuilder();
        int items = 1 + below(3);
        for (int t = 0; t < items; t++) {
            if (below(3) == 0 && open < 5) {
                made.append('(').append(drawText(open + 1)).append(')');
            } else {
                made.append(below(2) == 0 ? 'U' : 'D');
            }
            if (below(2) == 0) made.append(below(2) == 0 ? below(4) : below(10));
        }
        if (open == 0 && below(4) == 0) {
            made.setCharAt(below(made.length()), SIGNS.charAt(below(SIGNS.length())));
        }
        return made.toString();
    }

    private void readText() throws Exception {
        for (char sign : drawText(0).toCharArray()) call("feed", (int) sign);
        call("read", below(6));
    }

    /** Puts COUNTS of a BOARD on a TAPE, now and then one of them otherwise. */
    private void judgeCounts() throws Exception {
        int board = below(6);
        int from = below(3);
        call("tape", 0, 1, from + 4 + below(5));
        for (int k = 0; k <= 6; k++) {
            long told = quick.count(board, k) + (below(15) == 0 ? 65536 : 0) + (below(15) == 0 ? 1 : 0);
            call("item", 0, from + k, told);
        }
        call("judge", 0, from, board);
    }

    private void lookAtAll() throws Exception {
        for (int p = 0; p < 6; p++) {
            for (int i = -2; i < 13; i++) call("word", p, i);
            for (int i = 0; i < 7; i++) call("row", p, i);
        }
        for (int i = 0; i < 13; i++) for (int j = 0; j < 13; j++) call("number", i, j);
        for (int what = 0; what < 7; what++) call("told", what);
    }

    /** In two of three runs only some of the calls, so that what others would wipe out can pile up. */
    private String[] drawLines() {
        boolean some = below(3) > 0;
        StringBuilder all = new StringBuilder();
        for (String line : CALLS) {
            int often = line.charAt(0) - '0';
            boolean kept = !some || below(4) == 0 || line.contains("cell") || line.contains("letter");
            all.append((line + "\n").repeat(kept ? often : 0));
        }
        return all.toString().split("\n");
    }

    private int go(int calls) throws Exception {
        String[] lines = drawLines();
        for (int c = 0; c < calls && wrong == 0; c++) {
            int drawn = below(40);
            if (drawn == 0) readText();
            else if (drawn == 1) judgeCounts();
            else callDrawn(lines[below(lines.length)]);
        }
        if (wrong == 0) lookAtAll();
        return wrong;
    }

    /** Every call of ALL STEPS and CLASSES of every SIDE. */
    private int goThroughSteps() throws Exception {
        for (int n = 1; n <= 6; n++) {
            int steps = quick.all(n, 0, -1);
            for (int number = -1; number <= steps; number++) {
                int digits = 0;
                for (int i = 0; i < n; i++) {
                    call("all", n, number, i);
                    digits = digits * 10 + Math.max(quick.all(n, number, i), 0);
                }
                call("steps", 0, n, digits);
                call("of", 0, 2);
                if (number % 7 == 0) {
                    call("of", 0, 3);
                    call("like", 0, 0);
                    call("like", 0, 1);
                }
            }
            int parts = quick.classes(n, -1, 0);
            for (int i = -2; i <= parts; i++) {
                call("classes", n, i, 0);
                call("classes", n, i, 1);
            }
        }
        return wrong;
    }

    /** Every BOARD of SIDE 3, and what is asked of each. */
    private int goThroughBoards() throws Exception {
        call("weight", 0, 1, 3);
        call("weight", 1, 1, 0);
        call("weight", 2, 0, 2);
        Map<Integer, Integer> drawn = new HashMap<>();
        for (int bits = 0; bits < 512; bits++) {
            call("side", 1, 3);
            for (int c = 0; c < 9; c++) if ((bits >> c & 1) != 0) call("cell", 1, c / 3, c % 3);
            for (int what = 0; what < 5; what++) call("of", 1, what);
            for (int k = 0; k <= 3; k++) {
                call("count", 1, k);
                call("hits", 1, k);
                for (int i = -1; i < 3; i++) {
                    call("cheapest", 1, k, i);
                    call("listed", 1, k, below(6), i);
                }
            }
            for (int part = 0; part < 2; part++) {
                call("odds", 1, part);
                call("mean", 1, part);
                call("like", 1, part);
                call("lots", 1, 5, bits, part);
            }
            call("factored", 1, bits % 21);
            call("bySteps", 1, bits % 21);
            drawn.merge(quick.of(1, 3), 1, Integer::sum);
        }
        for (int number = 0; number < 20; number++) {
            if (drawn.getOrDefault(number, 0) != 1) {
                wrong++;
                System.out.println("steps " + number + " of side 3 came " + drawn.get(number) + " times");
            }
        }
        return wrong;
    }

    /** Every TEXT of 5 signs or less over U ( ) 2. */
    private int goThroughTexts() throws Exception {
        String signs = "U()2";
        for (int size = 0; size <= 5; size++) {
            int texts = (int) Math.pow(4, size);
            for (int t = 0; t < texts; t++) {
                int rest = t;
                for (int p = 0; p < size; p++) {
                    call("feed", (int) signs.charAt(rest % 4));
                    rest /= 4;
                }
                call("read", t % 6);
                call("told", 3);
            }
        }
        return wrong;
    }

    public static void main(String[] args) throws Exception {
        int runs = args.length > 0 ? Integer.parseInt(args[0]) : 500;
        int wrong = new ModelTest(1).goThroughSteps() + new ModelTest(2).goThroughBoards()
            + new ModelTest(3).goThroughTexts();
        for (int seed = 0; seed < runs && wrong == 0; seed++) {
            ModelTest test = new ModelTest(1000 + seed);
            wrong += test.go(500);
            if (wrong != 0) System.out.println("run " + seed + ":\n" + test.run);
        }
        System.out.println(wrong == 0 ? "ModelTest: all answers are alike" : "ModelTest: " + wrong + " are not");
        if (wrong != 0) System.exit(1);
    }
}
