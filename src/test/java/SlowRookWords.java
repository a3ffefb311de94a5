import java.lang.reflect.Array;
import java.math.BigInteger;
import java.util.ArrayDeque;
import java.util.ArrayList;
import java.util.Arrays;
import java.util.Collections;
import java.util.Comparator;
import java.util.Deque;
import java.util.HashMap;
import java.util.List;
import java.util.Map;
import java.util.TreeMap;

/**
 * The document once more, as slow and as plain as it can be said: forms by rewriting texts, rooks and orders by
 * trying all of them. ModelTest holds the program against it; nothing here is taken from the program.
 */
final class SlowRookWords {
    private static final int NONE = -1, BAD = -2, STATE = -3, FULL = -4, OVER = -6;
    private static final long NO = Long.MIN_VALUE;
    private static final BigInteger MOST = BigInteger.TEN.pow(15);
    private static final Map<String, Map<List<Integer>, BigInteger>> FORMS = new HashMap<>();
    private static final Map<Integer, List<int[]>> ALL_STEPS = new HashMap<>();
    private static final Map<Integer, List<List<Integer>>> ALL_COUNTS = new HashMap<>();
    private static final Object[] EMPTY_ROWS = {new byte[0], new short[0], new int[0], new long[0], new boolean[0]};

    private String[] words = {"", "", "", "", "", ""};
    private Map<List<Integer>, BigInteger> sum = new HashMap<>();
    private boolean[][][] boards = new boolean[6][3][3];
    private int[][] weights = new int[6][6];
    private List<int[]> seen = new ArrayList<>();
    private SlowRookWords image;
    private final Deque<Runnable> changes = new ArrayDeque<>();
    private final StringBuilder tape = new StringBuilder();
    private String paper = "";
    private final Object[] tapes = new Object[6];

    SlowRookWords() {
        for (int[] row : weights) {
            Arrays.fill(row, 1);
        }
    }

    private static boolean six(int number) {
        return 0 <= number && number <= 5;
    }

    // ---- words

    int letter(int word, int sign) {
        if (!six(word)) return NONE;
        if (sign != 0 && sign != 1) return BAD;
        if (words[word].length() == 12) return FULL;
        words[word] += sign == 0 ? "U" : "D";
        return words[word].length();
    }

    int empty(int word) {
        if (!six(word)) return NONE;
        int had = words[word].length();
        words[word] = "";
        return had;
    }

    int make(int word, int kind, int m) {
        if (!six(word) || kind < 0 || kind > 5) return NONE;
        if (m < 0 || m > 6) return BAD;
        String made;
        switch (kind) {
            case 0: made = "U".repeat(m) + "D".repeat(m); break;
            case 1: made = "UD".repeat(m); break;
            case 2: made = "DU".repeat(m); break;
            case 3: made = "D".repeat(m) + "U".repeat(m); break;
            case 4: made = "U" + "D".repeat(m) + "U"; break;
            default:
                made = "";
                for (int i = 1; i <= m; i++) {
                    String more = "D".repeat(i) + "U";
                    if (made.length() + more.length() > 12) break;
                    made += more;
                }
        }
        words[word] = made;
        return made.length();
    }

    int join(int word, int other) {
        if (!six(word) || !six(other)) return NONE;
        if (words[word].length() + words[other].length() > 12) return FULL;
        words[word] += words[other];
        return words[word].length();
    }

    int turn(int word) {
        if (!six(word)) return NONE;
        words[word] = new StringBuilder(words[word]).reverse().toString()
            .replace('U', 'x').replace('D', 'U').replace('x', 'D');
        return words[word].length();
    }

    int word(int word, int i) {
        if (!six(word) || i < -2) return NONE;
        if (i == -2) return words[word].replace("D", "").length();
        if (i == -1) return words[word].length();
        return i >= words[word].length() ? -5 : words[word].charAt(i) == 'U' ? 0 : 1;
    }

    long acted(int word, int p, int what) {
        if (!six(word) || p < 0 || p > 20 || what < 0 || what > 1) return NO;
        BigInteger number = BigInteger.ONE;
        int power = p;
        for (int i = words[word].length() - 1; i >= 0; i--) {
            if (words[word].charAt(i) == 'U') {
                power++;
            } else if (power == 0) {
                number = BigInteger.ZERO;
            } else {
                number = number.multiply(BigInteger.valueOf(power));
                power--;
            }
        }
        return what == 0 ? number.longValueExact() : power;
    }

    /** The ORDERED form by rewriting D U. */
    private static Map<List<Integer>, BigInteger> form(String word) {
        Map<List<Integer>, BigInteger> known = FORMS.get(word);
        if (known != null) return known;
        Map<List<Integer>, BigInteger> form = new HashMap<>();
        int at = word.indexOf("DU");
        if (at < 0) {
            int ups = word.replace("D", "").length();
            form.put(List.of(ups, word.length() - ups), BigInteger.ONE);
        } else {
            String before = word.substring(0, at);
            String behind = word.substring(at + 2);
            form(before + "UD" + behind).forEach((key, v) -> form.merge(key, v, BigInteger::add));
            form(before + behind).forEach((key, v) -> form.merge(key, v, BigInteger::add));
        }
        FORMS.put(word, form);
        return form;
    }

    long order(int word, int k) {
        if (!six(word) || k < 0) return NO;
        int ups = words[word].replace("D", "").length();
        int downs = words[word].length() - ups;
        if (k > Math.min(ups, downs)) return 0;
        return form(words[word]).getOrDefault(List.of(ups - k, downs - k), BigInteger.ZERO).longValueExact();
    }

    // ---- the sum

    private int notZero() {
        sum.values().removeIf(v -> v.signum() == 0);
        return sum.size();
    }

    private static boolean isOver(Map<List<Integer>, BigInteger> numbers) {
        for (Map.Entry<List<Integer>, BigInteger> e : numbers.entrySet()) {
            if (e.getValue().abs().compareTo(MOST) > 0) return true;
            if (e.getValue().signum() != 0 && (e.getKey().get(0) > 12 || e.getKey().get(1) > 12)) return true;
        }
        return false;
    }

    int clear() {
        int had = notZero();
        sum.clear();
        return had;
    }

    int add(int word, int times) {
        if (!six(word)) return NONE;
        if (times < -99 || times > 99) return BAD;
        Map<List<Integer>, BigInteger> coming = new HashMap<>(sum);
        form(words[word]).forEach((key, v) -> coming.merge(key, v.multiply(BigInteger.valueOf(times)), BigInteger::add));
        if (isOver(coming)) return OVER;
        sum = coming;
        return notZero();
    }

    int times(int word) {
        if (!six(word)) return NONE;
        Map<List<Integer>, BigInteger> coming = sum;
        for (char letter : words[word].toCharArray()) {
            Map<List<Integer>, BigInteger> next = new HashMap<>();
            coming.forEach((key, v) -> {
                int i = key.get(0);
                int j = key.get(1);
                if (letter == 'D') {
                    next.merge(List.of(i, j + 1), v, BigInteger::add);
                } else {
                    next.merge(List.of(i + 1, j), v, BigInteger::add);
                    if (j > 0) next.merge(List.of(i, j - 1), v.multiply(BigInteger.valueOf(j)), BigInteger::add);
                }
            });
            if (isOver(next)) return OVER;
            coming = next;
        }
        sum = new HashMap<>(coming);
        return notZero();
    }

    long number(int i, int j) {
        return sum.getOrDefault(List.of(i, j), BigInteger.ZERO).longValueExact();
    }

    // ---- boards

    private static int cells(boolean[][] board) {
        int cells = 0;
        for (boolean[] row : board) for (boolean cell : row) if (cell) cells++;
        return cells;
    }

    private int become(int board, boolean[][] made) {
        boards[board] = made;
        changes.clear();
        return cells(made);
    }

    int side(int board, int n) {
        if (!six(board)) return NONE;
        if (n < 1 || n > 6) return BAD;
        int had = boards[board].length;
        become(board, new boolean[n][n]);
        return had;
    }

    int cell(int board, int i, int j) {
        if (!six(board)) return NONE;
        int n = boards[board].length;
        if (i < 0 || i >= n || j < 0 || j >= n) return NONE;
        boolean was = boards[board][i][j];
        boards[board][i][j] = !was;
        keep(() -> boards[board][i][j] = was);
        return cells(boards[board]);
    }

    private void keep(Runnable change) {
        changes.addLast(change);
        if (changes.size() > 10) changes.removeFirst();
    }

    int board(int board, int word) {
        if (!six(board) || !six(word)) return NONE;
        List<Integer> ups = new ArrayList<>();
        List<Integer> downs = new ArrayList<>();
        for (int p = 0; p < words[word].length(); p++) (words[word].charAt(p) == 'U' ? ups : downs).add(p);
        if (ups.size() > 6 || downs.size() > 6) return STATE;
        int n = Math.max(1, Math.max(ups.size(), downs.size()));
        boolean[][] made = new boolean[n][n];
        for (int i = 0; i < downs.size(); i++) {
            for (int j = 0; j < ups.size(); j++) made[i][j] = downs.get(i) < ups.get(j);
        }
        return become(board, made);
    }

    private static boolean[][] stepsBoard(int[] heights) {
        boolean[][] made = new boolean[heights.length][heights.length];
        for (int i = 0; i < heights.length; i++) Arrays.fill(made[i], 0, heights[i], true);
        return made;
    }

    int steps(int board, int n, int heights) {
        if (!six(board)) return NONE;
        if (n < 1 || n > 6 || heights < 0) return BAD;
        String digits = Integer.toString(heights);
        if (digits.length() > n) return BAD;
        digits = "0".repeat(n - digits.length()) + digits;
        int[] told = new int[n];
        for (int i = 0; i < n; i++) {
            told[i] = digits.charAt(i) - '0';
            if (told[i] > n || i > 0 && told[i] < told[i - 1]) return BAD;
        }
        return become(board, stepsBoard(told));
    }

    int other(int board) {
        if (!six(board)) return NONE;
        int n = boards[board].length;
        boolean[][] made = new boolean[n][n];
        for (int i = 0; i < n; i++) for (int j = 0; j < n; j++) made[i][j] = !boards[board][i][j];
        return become(board, made);
    }

    int turned(int board) {
        if (!six(board)) return NONE;
        int n = boards[board].length;
        boolean[][] made = new boolean[n][n];
        for (int i = 0; i < n; i++) for (int j = 0; j < n; j++) made[j][i] = boards[board][i][j];
        return become(board, made);
    }

    int flipped(int board) {
        if (!six(board)) return NONE;
        int n = boards[board].length;
        boolean[][] made = new boolean[n][n];
        for (int i = 0; i < n; i++) made[n - 1 - i] = boards[board][i].clone();
        return become(board, made);
    }

    int row(int board, int i) {
        if (!six(board) || i < 0 || i >= boards[board].length) return NONE;
        int bits = 0;
        for (int j = 0; j < boards[board].length; j++) if (boards[board][i][j]) bits += 1 << j;
        return bits;
    }

    private static int[] heights(boolean[][] board) {
        for (int[] heights : allSteps(board.length)) {
            if (Arrays.deepEquals(stepsBoard(heights), board)) return heights;
        }
        return null;
    }

    int of(int board, int what) {
        if (!six(board)) return NONE;
        boolean[][] b = boards[board];
        switch (what) {
            case 0: return b.length;
            case 1: return cells(b);
            case 2: return heights(b) == null ? 0 : 1;
            case 3: return heights(b) == null ? -5 : allSteps(b.length).indexOf(heights(b));
            case 4:
                int k = b.length;
                while (counts(b).get(k) == 0) k--;
                return k;
            default: return NONE;
        }
    }

    // ---- rooks

    /** All ways k ROOKS stand, each as the column of each row (99: none), by row 0, then row 1, .. */
    private static List<int[]> stands(boolean[][] board, int k) {
        List<int[]> all = new ArrayList<>();
        stand(board, k, 0, new int[board.length], all);
        return all;
    }

    private static void stand(boolean[][] board, int left, int i, int[] columns, List<int[]> all) {
        if (left > board.length - i) return;
        if (i == board.length) {
            all.add(columns.clone());
            return;
        }
        for (int j = 0; j < board.length && left > 0; j++) {
            boolean free = board[i][j];
            for (int r = 0; r < i; r++) free &= columns[r] != j;
            if (free) {
                columns[i] = j;
                stand(board, left - 1, i + 1, columns, all);
            }
        }
        columns[i] = 99;
        stand(board, left, i + 1, columns, all);
    }

    private static List<Integer> counts(boolean[][] board) {
        List<Integer> counts = new ArrayList<>();
        for (int k = 0; k <= board.length; k++) counts.add(stands(board, k).size());
        return counts;
    }

    private static List<int[]> orders(int n) {
        boolean[][] full = new boolean[n][n];
        for (boolean[] row : full) Arrays.fill(row, true);
        return stands(full, n);
    }

    private static int hitsOf(boolean[][] board, int[] order) {
        int hits = 0;
        for (int i = 0; i < order.length; i++) if (board[i][order[i]]) hits++;
        return hits;
    }

    int count(int board, int k) {
        if (!six(board) || k < 0) return NONE;
        return k > boards[board].length ? 0 : counts(boards[board]).get(k);
    }

    int hits(int board, int k) {
        if (!six(board) || k < 0) return NONE;
        int hits = 0;
        for (int[] order : orders(boards[board].length)) if (hitsOf(boards[board], order) == k) hits++;
        return hits;
    }

    long factored(int board, int x) {
        if (!six(board) || x < 0 || x > 20) return NO;
        int n = boards[board].length;
        long all = 0;
        for (int k = 0; k <= n; k++) {
            long falling = 1;
            for (int f = 0; f < n - k; f++) falling *= x - f;
            all += counts(boards[board]).get(k) * falling;
        }
        return all;
    }

    long bySteps(int board, int x) {
        if (!six(board) || x < 0 || x > 20 || heights(boards[board]) == null) return NO;
        long product = 1;
        for (int i = 0; i < boards[board].length; i++) product *= x + heights(boards[board])[i] - i;
        return product;
    }

    // ---- all steps

    static List<int[]> allSteps(int n) {
        if (!ALL_STEPS.containsKey(n)) {
            List<int[]> all = new ArrayList<>();
            int tries = (int) Math.pow(n + 1, n);
            for (int t = 0; t < tries; t++) {
                int[] heights = new int[n];
                int rest = t;
                for (int i = n - 1; i >= 0; i--) {
                    heights[i] = rest % (n + 1);
                    rest /= n + 1;
                }
                boolean falls = false;
                for (int i = 1; i < n; i++) falls |= heights[i] < heights[i - 1];
                if (!falls) all.add(heights);
            }
            ALL_STEPS.put(n, all);
        }
        return ALL_STEPS.get(n);
    }

    private static List<List<Integer>> allCounts(int n) {
        if (!ALL_COUNTS.containsKey(n)) {
            List<List<Integer>> all = new ArrayList<>();
            for (int[] heights : allSteps(n)) all.add(counts(stepsBoard(heights)));
            ALL_COUNTS.put(n, all);
        }
        return ALL_COUNTS.get(n);
    }

    private static boolean isSide(int n) {
        return 1 <= n && n <= 6;
    }

    int all(int n, int number, int i) {
        if (!isSide(n)) return BAD;
        if (i < -1 || i >= n) return NONE;
        if (i == -1) return allSteps(n).size();
        return number < 0 || number >= allSteps(n).size() ? -5 : allSteps(n).get(number)[i];
    }

    int like(int board, int what) {
        if (!six(board) || what < 0 || what > 1) return NONE;
        List<Integer> own = counts(boards[board]);
        List<List<Integer>> all = allCounts(boards[board].length);
        return what == 0 ? Collections.frequency(all, own) : all.contains(own) ? all.indexOf(own) : -5;
    }

    private static int compareCounts(List<Integer> one, List<Integer> two) {
        for (int k = 0; k < one.size(); k++) {
            if (!one.get(k).equals(two.get(k))) return one.get(k).compareTo(two.get(k));
        }
        return 0;
    }

    int classes(int n, int i, int what) {
        if (!isSide(n)) return BAD;
        if (i < -1 || what < 0 || what > 1) return NONE;
        TreeMap<List<Integer>, Integer> parts = new TreeMap<>(SlowRookWords::compareCounts);
        for (List<Integer> counts : allCounts(n)) parts.merge(counts, 1, Integer::sum);
        if (i == -1) return what == 0 ? parts.size() : Collections.max(parts.values());
        if (i >= parts.size()) return -5;
        List<Integer> counts = new ArrayList<>(parts.keySet()).get(i);
        return what == 0 ? parts.get(counts) : allCounts(n).indexOf(counts);
    }

    int see(int k, int many) {
        if (k == -1) {
            seen.clear();
            return 0;
        }
        if (k < 0 || k > 6) return NONE;
        if (many < 0 || many > 9999) return BAD;
        if (seen.size() == 4) return FULL;
        seen.add(new int[] {k, many});
        return seen.size();
    }

    int fits(int n, int what) {
        if (!isSide(n)) return BAD;
        if (what < 0 || what > 1) return NONE;
        List<Integer> found = new ArrayList<>();
        for (int number = 0; number < allCounts(n).size(); number++) {
            boolean fits = true;
            for (int[] row : seen) fits &= (row[0] > n ? 0 : allCounts(n).get(number).get(row[0])) == row[1];
            if (fits) found.add(number);
        }
        return what == 0 ? found.size() : found.isEmpty() ? -5 : found.get(0);
    }

    // ---- weights

    int weight(int i, int j, int w) {
        if (!six(i) || !six(j)) return NONE;
        if (w < 0 || w > 9) return BAD;
        int had = weights[i][j];
        weights[i][j] = w;
        if (w != had) keep(() -> weights[i][j] = had);
        return had;
    }

    private int weigh(int[] stand) {
        int weight = 0;
        for (int i = 0; i < stand.length; i++) if (stand[i] != 99) weight += weights[i][stand[i]];
        return weight;
    }

    private int inList(boolean[][] board, int k, int at, int i) {
        List<int[]> all = stands(board, k);
        all.sort(Comparator.<int[]>comparingInt(this::weigh).thenComparing(Arrays::compare));
        if (at >= all.size()) return -5;
        if (i == -1) return weigh(all.get(at));
        return all.get(at)[i] == 99 ? -1 : all.get(at)[i];
    }

    int cheapest(int board, int k, int i) {
        if (!six(board) || i < -1 || i >= boards[board].length) return NONE;
        if (k < 0) return BAD;
        return inList(boards[board], k, 0, i);
    }

    int listed(int board, int k, int at, int i) {
        if (!six(board) || at < 0 || i < -1 || i >= boards[board].length) return NONE;
        if (k < 0) return BAD;
        if (boards[board].length > 4) return STATE;
        return inList(boards[board], k, at, i);
    }

    // ---- odds

    private static long fraction(long above, long below, int part) {
        BigInteger common = BigInteger.valueOf(above).gcd(BigInteger.valueOf(below));
        return (part == 0 ? above : below) / common.longValueExact();
    }

    long odds(int board, int part) {
        if (!six(board) || part < 0 || part > 1) return NO;
        return fraction(hits(board, 0), orders(boards[board].length).size(), part);
    }

    long mean(int board, int part) {
        if (!six(board) || part < 0 || part > 1) return NO;
        List<int[]> orders = orders(boards[board].length);
        long all = 0;
        for (int[] order : orders) all += hitsOf(boards[board], order);
        return fraction(all, orders.size(), part);
    }

    int lots(int board, int m, int z, int what) {
        if (!six(board) || what < 0 || what > 1) return NONE;
        if (m < 1 || m > 40) return BAD;
        int without = 0;
        int all = 0;
        for (int t = 0; t < m; t++) {
            List<Integer> left = new ArrayList<>();
            for (int j = 0; j < boards[board].length; j++) left.add(j);
            int[] order = new int[left.size()];
            for (int i = 0; i < order.length; i++) {
                z = (int) (z * 1103515245L + 12345L);
                order[i] = left.remove((z & 0x7fffffff) / 65536 % left.size());
            }
            int hits = hitsOf(boards[board], order);
            if (hits == 0) without++;
            all += hits;
        }
        return what == 0 ? without : all;
    }

    // ---- texts

    private static final class Wrong extends RuntimeException {
        private static final long serialVersionUID = 1;
    }

    private static final class TooLong extends RuntimeException {
        private static final long serialVersionUID = 1;
    }

    /** Reads a text from left to right; the letters are left out where only the form is asked. */
    private static final class Reader {
        private final String text;
        private final boolean formOnly;
        private int at;

        Reader(String text, boolean formOnly) {
            this.text = text;
            this.formOnly = formOnly;
        }

        private boolean sees(String signs) {
            return at < text.length() && signs.indexOf(text.charAt(at)) >= 0;
        }

        private String fit(String letters) {
            if (letters.length() > 12) throw new TooLong();
            return letters;
        }

        String items(int open) {
            String all = "";
            do {
                String one;
                if (sees("UD")) {
                    one = text.substring(at, ++at);
                } else if (sees("(") && open < 4) {
                    at++;
                    one = items(open + 1);
                    if (!sees(")")) throw new Wrong();
                    at++;
                } else {
                    throw new Wrong();
                }
                if (sees("0123456789")) one = one.repeat(text.charAt(at++) - '0');
                if (!formOnly) all = fit(all + fit(one));
            } while (at < text.length() && !sees(")"));
            return all;
        }

        String whole() {
            String all = items(0);
            if (at < text.length()) throw new Wrong();
            return all;
        }
    }

    private static boolean isText(String text) {
        try {
            new Reader(text, true).whole();
            return true;
        } catch (Wrong e) {
            return false;
        }
    }

    private static boolean goesOn(String start) {
        for (int closing = 0; closing <= 4; closing++) {
            if (isText(start + ")".repeat(closing)) || isText(start + "U" + ")".repeat(closing))) return true;
        }
        return false;
    }

    int feed(int sign) {
        if (sign < 0 || sign > 127) return BAD;
        if (tape.length() == 80) return FULL;
        tape.append((char) sign);
        return tape.length();
    }

    int read(int word) {
        if (!six(word)) return NONE;
        String text = tape.toString();
        tape.setLength(0);
        if (!isText(text)) {
            int fault = 0;
            while (fault < text.length() && goesOn(text.substring(0, fault + 1))) fault++;
            return -100 - fault;
        }
        try {
            words[word] = new Reader(text, false).whole();
        } catch (TooLong e) {
            return FULL;
        }
        return words[word].length();
    }

    int write(int word) {
        if (!six(word)) return NONE;
        paper = "";
        String rest = words[word];
        while (!rest.isEmpty()) {
            String letter = rest.substring(0, 1);
            int many = 9;
            while (!rest.startsWith(letter.repeat(many))) many--;
            paper += many == 1 ? letter : letter + many;
            rest = rest.substring(many);
        }
        return paper.length();
    }

    int paper(int i) {
        return i < 0 || i >= paper.length() ? NONE : paper.charAt(i);
    }

    // ---- changes, image

    int undo() {
        if (changes.isEmpty()) return STATE;
        changes.removeLast().run();
        return changes.size();
    }

    private int letters() {
        return String.join("", words).length();
    }

    private void copyTo(SlowRookWords other) {
        other.words = words.clone();
        other.sum = new HashMap<>(sum);
        other.boards = new boolean[6][][];
        for (int b = 0; b < 6; b++) {
            other.boards[b] = boards[b].clone();
            for (int i = 0; i < boards[b].length; i++) other.boards[b][i] = boards[b][i].clone();
        }
        other.weights = new int[6][];
        for (int i = 0; i < 6; i++) other.weights[i] = weights[i].clone();
        other.seen = new ArrayList<>(seen);
    }

    int image() {
        image = new SlowRookWords();
        copyTo(image);
        return letters();
    }

    int restore() {
        if (image == null) return STATE;
        image.copyTo(this);
        changes.clear();
        return letters();
    }

    int told(int what) {
        switch (what) {
            case 0: return letters();
            case 1:
                int all = 0;
                for (boolean[][] board : boards) all += cells(board);
                return all;
            case 2: return changes.size();
            case 3: return tape.length();
            case 4: return paper.length();
            case 5: return seen.size();
            case 6: return notZero();
            default: return BAD;
        }
    }

    // ---- tapes

    int judge(int t, int i, int board) {
        if (!six(t) || !six(board)) return NONE;
        if (tapes[t] == null) return 100;
        if (!(tapes[t] instanceof short[])) return -12;
        if (i < 0) return 100;
        short[] row = (short[]) tapes[t];
        List<Integer> counts = counts(boards[board]);
        for (int k = 0; k < counts.size(); k++) {
            if ((long) i + k >= row.length) return 100 + k;
            if (row[i + k] != counts.get(k)) return k;
        }
        return -5;
    }

    int tape(int t, int sort, int n) {
        if (!six(t)) return NONE;
        if (sort < -1 || sort > 4) return BAD;
        if (sort == -1) {
            tapes[t] = null;
            return 1;
        }
        if (n > 60) return BAD;
        if (n < 0) return -14;
        tapes[t] = Array.newInstance(EMPTY_ROWS[sort].getClass().getComponentType(), n);
        return 1;
    }

    int item(int t, int i, long v) {
        if (!six(t)) return NONE;
        Object row = tapes[t];
        if (row == null) return -11;
        if (i < 0 || i >= Array.getLength(row)) return -13;
        if (row instanceof byte[]) ((byte[]) row)[i] = (byte) v;
        if (row instanceof short[]) ((short[]) row)[i] = (short) v;
        if (row instanceof int[]) ((int[]) row)[i] = (int) v;
        if (row instanceof long[]) ((long[]) row)[i] = v;
        if (row instanceof boolean[]) ((boolean[]) row)[i] = v != 0;
        return 1;
    }

    long peek(int t, int i) {
        if (!six(t) || tapes[t] == null || i < 0 || i >= Array.getLength(tapes[t])) return NO;
        if (tapes[t] instanceof boolean[]) return ((boolean[]) tapes[t])[i] ? 1 : 0;
        return Array.getLong(tapes[t], i);
    }

    int shift(int t, int i, int other, int j, int n) {
        if (!six(t) || !six(other)) return NONE;
        if (tapes[t] == null || tapes[other] == null) return -11;
        if (tapes[t].getClass() != tapes[other].getClass()) return -12;
        if (n < 0 || i < 0 || j < 0) return -13;
        if ((long) i + n > Array.getLength(tapes[t]) || (long) j + n > Array.getLength(tapes[other])) return -13;
        System.arraycopy(tapes[t], i, tapes[other], j, n);
        return n;
    }
}
