import java.util.Arrays;

/** Words of raising and lowering brought to order, and the boards and rooks that count what comes of them. */
public final class RookWords {
    public static final int NONE = -1, BAD = -2, STATE = -3, FULL = -4, OVER = -6;
    public static final long NO = Long.MIN_VALUE;

    private static final int MISSING = -5;
    private static final int NOTHING = -11, CAST = -12, PLACE = -13, SIZE = -14;

    /** How many WORDS, BOARDS and TAPES there are of each. */
    private static final int PIECES = 6;
    private static final int UP = 0, DOWN = 1;
    private static final int MAX_LETTERS = 12;
    private static final int MAX_MADE = 6;
    private static final int MAX_POWER = 20;
    private static final int MAX_OFTEN = 99;
    private static final int MAX_SIDE = 6;
    private static final int MAX_LISTED_SIDE = 4;
    private static final int MAX_X = 20;
    private static final int MAX_SEEN = 4;
    private static final int MAX_MANY = 9999;
    private static final int MAX_WEIGHT = 9;
    private static final int MAX_LOTS = 40;
    private static final int MAX_ITEMS = 60;
    private static final int HOLDS_NOTHING = -1, BYTES = 0, SHORTS = 1, INTS = 2, BOOLEANS = 4;
    /** What the numbers that tell a FAULT, or a row that ends too early, begin from. */
    private static final int FAULT_BASE = -100, ENDED_BASE = 100;

    private final State now;
    private final State kept;
    private boolean imageTaken;
    private final Changes changes;
    private final Text text;
    private final Paper sheet;
    private final Tape[] tapes;
    private final Rooks rooks;
    private final Ladder[] ladders;
    private final long[] orders;

    public RookWords() {
        now = new State();
        kept = new State();
        changes = new Changes();
        text = new Text();
        sheet = new Paper();
        tapes = new Tape[PIECES];
        for (int t = 0; t < PIECES; t++) {
            tapes[t] = new Tape();
        }
        rooks = new Rooks();
        ladders = new Ladder[MAX_SIDE + 1];
        orders = new long[MAX_LETTERS + 1];
    }

    // ---- words

    public int letter(int word, int sign) {
        if (!isPiece(word)) {
            return NONE;
        }
        if (sign != UP && sign != DOWN) {
            return BAD;
        }
        Word w = now.words[word];
        if (!w.hasRoom(1)) {
            return FULL;
        }
        w.push(sign, 1);
        return w.size;
    }

    public int empty(int word) {
        if (!isPiece(word)) {
            return NONE;
        }
        Word w = now.words[word];
        int had = w.size;
        w.size = 0;
        return had;
    }

    public int make(int word, int kind, int m) {
        if (!isPiece(word) || kind < 0 || kind > 5) {
            return NONE;
        }
        if (m < 0 || m > MAX_MADE) {
            return BAD;
        }
        Word w = now.words[word];
        w.size = 0;
        w.fillByKind(kind, m);
        return w.size;
    }

    public int join(int word, int other) {
        if (!isPiece(word) || !isPiece(other)) {
            return NONE;
        }
        Word w = now.words[word];
        Word behind = now.words[other];
        if (!w.hasRoom(behind.size)) {
            return FULL;
        }
        // The size is taken ahead, since a WORD that is joined to itself grows on the way.
        int size = behind.size;
        for (int i = 0; i < size; i++) {
            w.push(behind.letters[i], 1);
        }
        return w.size;
    }

    public int turn(int word) {
        if (!isPiece(word)) {
            return NONE;
        }
        Word w = now.words[word];
        w.turnAbout();
        return w.size;
    }

    public int word(int word, int i) {
        if (!isPiece(word) || i < -2) {
            return NONE;
        }
        Word w = now.words[word];
        if (i == -2) {
            return w.ups();
        }
        if (i == -1) {
            return w.size;
        }
        return i < w.size ? w.letters[i] : MISSING;
    }

    public long acted(int word, int p, int what) {
        if (!isPiece(word) || p < 0 || p > MAX_POWER || what < 0 || what > 1) {
            return NO;
        }
        Word w = now.words[word];
        long number = 1;
        int power = p;
        for (int i = w.size - 1; i >= 0; i--) {
            if (w.letters[i] == UP) {
                power++;
            } else {
                number *= power;
                power = Math.max(power - 1, 0);
            }
        }
        return what == 0 ? number : power;
    }

    public long order(int word, int k) {
        if (!isPiece(word) || k < 0) {
            return NO;
        }
        if (k >= orders.length) {
            return 0;
        }
        now.words[word].fillOrders(orders);
        return orders[k];
    }

    // ---- the sum

    public int clear() {
        int had = now.sum.notZero();
        now.sum.wipe();
        return had;
    }

    public int add(int word, int times) {
        if (!isPiece(word)) {
            return NONE;
        }
        if (times < -MAX_OFTEN || times > MAX_OFTEN) {
            return BAD;
        }
        Word w = now.words[word];
        w.fillOrders(orders);
        if (!now.sum.take(orders, w.ups(), w.downs(), times)) {
            return OVER;
        }
        return now.sum.notZero();
    }

    public int times(int word) {
        if (!isPiece(word)) {
            return NONE;
        }
        if (!now.sum.multiply(now.words[word])) {
            return OVER;
        }
        return now.sum.notZero();
    }

    public long number(int i, int j) {
        return now.sum.at(i, j);
    }

    // ---- boards

    public int side(int board, int n) {
        if (!isPiece(board)) {
            return NONE;
        }
        if (!isSide(n)) {
            return BAD;
        }
        Board b = now.boards[board];
        int had = b.side;
        b.clean(n);
        changes.forget();
        return had;
    }

    public int cell(int board, int i, int j) {
        if (!isPiece(board) || !now.boards[board].isPlace(i, j)) {
            return NONE;
        }
        Board b = now.boards[board];
        b.toggle(i, j);
        changes.keep(board, i, j, 0);
        return b.cells();
    }

    public int board(int board, int word) {
        if (!isPiece(board) || !isPiece(word)) {
            return NONE;
        }
        Word w = now.words[word];
        if (w.ups() > MAX_SIDE || w.downs() > MAX_SIDE) {
            return STATE;
        }
        Board b = now.boards[board];
        b.becomeWord(w);
        changes.forget();
        return b.cells();
    }

    public int steps(int board, int n, int heights) {
        if (!isPiece(board)) {
            return NONE;
        }
        if (!isSide(n) || !areHeights(n, heights)) {
            return BAD;
        }
        Board b = now.boards[board];
        b.becomeSteps(n, heights);
        changes.forget();
        return b.cells();
    }

    public int other(int board) {
        if (!isPiece(board)) {
            return NONE;
        }
        Board b = now.boards[board];
        b.becomeOther();
        changes.forget();
        return b.cells();
    }

    public int turned(int board) {
        if (!isPiece(board)) {
            return NONE;
        }
        Board b = now.boards[board];
        b.becomeTurned();
        changes.forget();
        return b.cells();
    }

    public int flipped(int board) {
        if (!isPiece(board)) {
            return NONE;
        }
        Board b = now.boards[board];
        b.becomeFlipped();
        changes.forget();
        return b.cells();
    }

    public int row(int board, int i) {
        if (!isPiece(board) || !now.boards[board].isPlace(i, 0)) {
            return NONE;
        }
        return now.boards[board].rows[i];
    }

    public int of(int board, int what) {
        if (!isPiece(board) || what < 0 || what > 4) {
            return NONE;
        }
        Board b = now.boards[board];
        switch (what) {
            case 0:
                return b.side;
            case 1:
                return b.cells();
            case 2:
                return b.isSteps() ? 1 : 0;
            case 3:
                return b.isSteps() ? ladderOf(b.side).numberOf(b.heightDigits()) : MISSING;
            default:
                return greatestStanding(rooks.countsOf(b));
        }
    }

    // ---- rooks

    public int count(int board, int k) {
        if (!isPiece(board) || k < 0) {
            return NONE;
        }
        if (k > MAX_SIDE) {
            return 0;
        }
        return rooks.countsOf(now.boards[board])[k];
    }

    public int hits(int board, int k) {
        if (!isPiece(board) || k < 0) {
            return NONE;
        }
        if (k > MAX_SIDE) {
            return 0;
        }
        return rooks.hitsOf(now.boards[board], k);
    }

    public long factored(int board, int x) {
        if (!isPiece(board) || x < 0 || x > MAX_X) {
            return NO;
        }
        Board b = now.boards[board];
        int[] counts = rooks.countsOf(b);
        long all = 0;
        for (int k = 0; k <= b.side; k++) {
            long product = counts[k];
            for (int f = 0; f < b.side - k; f++) {
                product *= x - f;
            }
            all += product;
        }
        return all;
    }

    public long bySteps(int board, int x) {
        if (!isPiece(board) || x < 0 || x > MAX_X || !now.boards[board].isSteps()) {
            return NO;
        }
        Board b = now.boards[board];
        long product = 1;
        for (int i = 0; i < b.side; i++) {
            product *= x + b.height(i) - i;
        }
        return product;
    }

    // ---- all steps

    public int all(int n, int number, int i) {
        if (!isSide(n)) {
            return BAD;
        }
        if (i < -1 || i >= n) {
            return NONE;
        }
        Ladder ladder = ladderOf(n);
        if (i == -1) {
            return ladder.size;
        }
        if (number < 0 || number >= ladder.size) {
            return MISSING;
        }
        return digit(ladder.heights[number], n - 1 - i);
    }

    public int like(int board, int what) {
        if (!isPiece(board) || what < 0 || what > 1) {
            return NONE;
        }
        Board b = now.boards[board];
        Ladder ladder = ladderOf(b.side);
        int part = ladder.partOf(keyOf(rooks.countsOf(b)));
        if (part < 0) {
            return what == 0 ? 0 : MISSING;
        }
        return what == 0 ? ladder.partSizes[part] : ladder.partFirsts[part];
    }

    public int classes(int n, int i, int what) {
        if (!isSide(n)) {
            return BAD;
        }
        if (i < -1 || what < 0 || what > 1) {
            return NONE;
        }
        Ladder ladder = ladderOf(n);
        if (i == -1) {
            return what == 0 ? ladder.parts : ladder.greatestPart();
        }
        if (i >= ladder.parts) {
            return MISSING;
        }
        return what == 0 ? ladder.partSizes[i] : ladder.partFirsts[i];
    }

    public int see(int k, int many) {
        if (k < -1 || k > MAX_SIDE) {
            return NONE;
        }
        if (k == -1) {
            now.seenSize = 0;
            return 0;
        }
        if (many < 0 || many > MAX_MANY) {
            return BAD;
        }
        if (now.seenSize >= MAX_SEEN) {
            return FULL;
        }
        now.seenRooks[now.seenSize] = k;
        now.seenMany[now.seenSize] = many;
        now.seenSize++;
        return now.seenSize;
    }

    public int fits(int n, int what) {
        if (!isSide(n)) {
            return BAD;
        }
        if (what < 0 || what > 1) {
            return NONE;
        }
        Ladder ladder = ladderOf(n);
        int many = 0;
        int first = MISSING;
        for (int number = ladder.size - 1; number >= 0; number--) {
            if (now.agreesWithSeen(ladder.keys[number])) {
                many++;
                first = number;
            }
        }
        return what == 0 ? many : first;
    }

    // ---- weights

    public int weight(int i, int j, int w) {
        if (i < 0 || i >= MAX_SIDE || j < 0 || j >= MAX_SIDE) {
            return NONE;
        }
        if (w < 0 || w > MAX_WEIGHT) {
            return BAD;
        }
        int place = i * MAX_SIDE + j;
        int had = now.weights[place];
        if (had != w) {
            now.weights[place] = w;
            changes.keep(Changes.OF_WEIGHT, i, j, had);
        }
        return had;
    }

    public int cheapest(int board, int k, int i) {
        if (!isPiece(board) || i < -1 || i >= now.boards[board].side) {
            return NONE;
        }
        if (k < 0) {
            return BAD;
        }
        int least = rooks.weighCheapest(now.boards[board], now.weights, k);
        if (least >= Rooks.CANNOT) {
            return MISSING;
        }
        return i == -1 ? least : rooks.cheapestColumn(now.boards[board], now.weights, i);
    }

    public int listed(int board, int k, int at, int i) {
        if (!isPiece(board) || at < 0 || i < -1 || i >= now.boards[board].side) {
            return NONE;
        }
        if (k < 0) {
            return BAD;
        }
        Board b = now.boards[board];
        if (b.side > MAX_LISTED_SIDE) {
            return STATE;
        }
        int stand = rooks.listedStand(b, now.weights, k, at);
        if (stand < 0) {
            return MISSING;
        }
        return i == -1 ? rooks.listedWeight(stand) : Rooks.columnInStand(stand, b.side, i);
    }

    // ---- odds

    public long odds(int board, int part) {
        if (!isPiece(board) || part < 0 || part > 1) {
            return NO;
        }
        Board b = now.boards[board];
        return inLowestTerms(rooks.hitsOf(b, 0), Rooks.FACTORIALS[b.side], part);
    }

    public long mean(int board, int part) {
        if (!isPiece(board) || part < 0 || part > 1) {
            return NO;
        }
        // Each CELL is in one of n orders, so the mean needs no orders at all.
        Board b = now.boards[board];
        return inLowestTerms(b.cells(), b.side, part);
    }

    public int lots(int board, int m, int z, int what) {
        if (!isPiece(board) || what < 0 || what > 1) {
            return NONE;
        }
        if (m < 1 || m > MAX_LOTS) {
            return BAD;
        }
        return rooks.drawLots(now.boards[board], m, z, what == 0);
    }

    // ---- texts

    public int feed(int sign) {
        if (sign < 0 || sign > 127) {
            return BAD;
        }
        return text.push(sign) ? text.size : FULL;
    }

    public int read(int word) {
        if (!isPiece(word)) {
            return NONE;
        }
        int fault = text.fault();
        int size = fault == Text.NO_FAULT ? text.spell() : FAULT_BASE - fault;
        text.size = 0;
        if (size >= 0) {
            now.words[word].becomeLetters(text.letters, size);
        }
        return size;
    }

    public int write(int word) {
        if (!isPiece(word)) {
            return NONE;
        }
        sheet.putWord(now.words[word]);
        return sheet.size;
    }

    public int paper(int i) {
        return i >= 0 && i < sheet.size ? sheet.bytes[i] : NONE;
    }

    // ---- changes, image

    public int undo() {
        if (changes.size == 0) {
            return STATE;
        }
        changes.undoLatest(now);
        return changes.size;
    }

    public int image() {
        kept.becomeLike(now);
        imageTaken = true;
        return now.allLetters();
    }

    public int restore() {
        if (!imageTaken) {
            return STATE;
        }
        now.becomeLike(kept);
        changes.forget();
        return now.allLetters();
    }

    public int told(int what) {
        switch (what) {
            case 0:
                return now.allLetters();
            case 1:
                return now.allCells();
            case 2:
                return changes.size;
            case 3:
                return text.size;
            case 4:
                return sheet.size;
            case 5:
                return now.seenSize;
            case 6:
                return now.sum.notZero();
            default:
                return BAD;
        }
    }

    // ---- tapes

    public int judge(int tape, int i, int board) {
        if (!isPiece(tape) || !isPiece(board)) {
            return NONE;
        }
        Tape t = tapes[tape];
        if (t.sort == HOLDS_NOTHING) {
            return ENDED_BASE;
        }
        if (t.sort != SHORTS) {
            return CAST;
        }
        if (i < 0) {
            return ENDED_BASE;
        }
        Board b = now.boards[board];
        int[] counts = rooks.countsOf(b);
        for (int k = 0; k <= b.side; k++) {
            if (i >= t.size - k) {
                return ENDED_BASE + k;
            }
            if (t.items[i + k] != counts[k]) {
                return k;
            }
        }
        return MISSING;
    }

    public int tape(int tape, int sort, int n) {
        if (!isPiece(tape)) {
            return NONE;
        }
        if (sort < HOLDS_NOTHING || sort > BOOLEANS) {
            return BAD;
        }
        if (sort == HOLDS_NOTHING) {
            tapes[tape].become(HOLDS_NOTHING, 0);
            return 1;
        }
        if (n > MAX_ITEMS) {
            return BAD;
        }
        if (n < 0) {
            return SIZE;
        }
        tapes[tape].become(sort, n);
        return 1;
    }

    public int item(int tape, int i, long v) {
        if (!isPiece(tape)) {
            return NONE;
        }
        Tape t = tapes[tape];
        if (t.sort == HOLDS_NOTHING) {
            return NOTHING;
        }
        if (i < 0 || i >= t.size) {
            return PLACE;
        }
        t.items[i] = t.asItem(v);
        return 1;
    }

    public long peek(int tape, int i) {
        if (!isPiece(tape)) {
            return NO;
        }
        Tape t = tapes[tape];
        return i >= 0 && i < t.size ? t.items[i] : NO;
    }

    public int shift(int tape, int i, int other, int j, int n) {
        if (!isPiece(tape) || !isPiece(other)) {
            return NONE;
        }
        Tape from = tapes[tape];
        Tape to = tapes[other];
        if (from.sort == HOLDS_NOTHING || to.sort == HOLDS_NOTHING) {
            return NOTHING;
        }
        if (from.sort != to.sort) {
            return CAST;
        }
        if (!from.hasPart(i, n) || !to.hasPart(j, n)) {
            return PLACE;
        }
        System.arraycopy(from.items, i, to.items, j, n);
        return n;
    }

    // ---- what several calls need

    private static boolean isPiece(int number) {
        return number >= 0 && number < PIECES;
    }

    private static boolean isSide(int n) {
        return n >= 1 && n <= MAX_SIDE;
    }

    /** Whether digits tell HEIGHTS for a SIDE n: none above n, none falling, n digits at most. */
    private static boolean areHeights(int n, int digits) {
        if (digits < 0) {
            return false;
        }
        int rest = digits;
        int above = n;
        for (int i = n - 1; i >= 0; i--) {
            int height = rest % 10;
            if (height > above) {
                return false;
            }
            above = height;
            rest /= 10;
        }
        return rest == 0;
    }

    /** The digit of a number that has so many digits (0 .. 9) behind it. */
    private static int digit(int number, int behind) {
        int rest = number;
        for (int d = 0; d < behind; d++) {
            rest /= 10;
        }
        return rest % 10;
    }

    private static int greatestStanding(int[] counts) {
        int greatest = 0;
        for (int k = 1; k < counts.length; k++) {
            if (counts[k] != 0) {
                greatest = k;
            }
        }
        return greatest;
    }

    /** Part 0 (above the line) or 1 (below it) of a fraction whose lower part is above 0. */
    private static long inLowestTerms(int above, int below, int part) {
        int common = Math.max(below, 1);
        while (common > 1 && (above % common != 0 || below % common != 0)) {
            common--;
        }
        return part == 0 ? above / common : below / common;
    }

    /** COUNTS 1 .. 6 packed side by side, COUNT 1 uppermost, so that keys are ordered as COUNTS are. */
    private static long keyOf(int[] counts) {
        long key = 0;
        for (int k = 1; k <= MAX_SIDE; k++) {
            key |= (long) counts[k] << Ladder.SHIFTS[k];
        }
        return key;
    }

    /** The table of ALL STEPS of a SIDE 1 .. 6; made when first asked for, since few runs need all six. */
    private Ladder ladderOf(int side) {
        Ladder ladder = ladders[side];
        if (ladder == null) {
            ladder = new Ladder(side);
            ladders[side] = ladder;
        }
        return ladder;
    }

    /** A WORD: its letters (UP, DOWN) and how many there are. */
    private static final class Word {
        final int[] letters = new int[MAX_LETTERS];
        int size;

        boolean hasRoom(int more) {
            return more <= MAX_LETTERS - size;
        }

        void push(int sign, int often) {
            for (int i = 0; i < often && size < MAX_LETTERS; i++) {
                letters[size] = sign;
                size++;
            }
        }

        void fillByKind(int kind, int m) {
            switch (kind) {
                case 0:
                    push(UP, m);
                    push(DOWN, m);
                    break;
                case 1:
                    pushPairs(UP, DOWN, m);
                    break;
                case 2:
                    pushPairs(DOWN, UP, m);
                    break;
                case 3:
                    push(DOWN, m);
                    push(UP, m);
                    break;
                case 4:
                    push(UP, 1);
                    push(DOWN, m);
                    push(UP, 1);
                    break;
                default:
                    pushGrowing(m);
                    break;
            }
        }

        private void pushPairs(int first, int second, int m) {
            for (int i = 0; i < m; i++) {
                push(first, 1);
                push(second, 1);
            }
        }

        private void pushGrowing(int m) {
            for (int i = 1; i <= m && hasRoom(i + 1); i++) {
                push(DOWN, i);
                push(UP, 1);
            }
        }

        int ups() {
            int ups = 0;
            for (int i = 0; i < size; i++) {
                if (letters[i] == UP) {
                    ups++;
                }
            }
            return ups;
        }

        int downs() {
            return size - ups();
        }

        void turnAbout() {
            for (int i = 0, j = size - 1; i <= j; i++, j--) {
                int first = letters[i];
                letters[i] = DOWN - letters[j];
                letters[j] = DOWN - first;
            }
        }

        void becomeLetters(int[] others, int many) {
            size = 0;
            for (int i = 0; i < many && i < others.length; i++) {
                push(others[i], 1);
            }
        }

        /** ORDER k at place k; a U that comes behind b letters D may pass each of those still unpaired. */
        void fillOrders(long[] orders) {
            Arrays.fill(orders, 0);
            orders[0] = 1;
            int downs = 0;
            for (int i = 0; i < size; i++) {
                if (letters[i] == DOWN) {
                    downs++;
                    continue;
                }
                for (int k = downs; k >= 1; k--) {
                    orders[k] += (downs - k + 1) * orders[k - 1];
                }
            }
        }
    }

    /** THE SUM: NUMBER of i, j at place i * SPAN + j. */
    private static final class Sum {
        static final int SPAN = MAX_LETTERS + 1;
        static final long MOST = 1_000_000_000_000_000L;

        final long[] numbers = new long[SPAN * SPAN];
        /** What comes is made here first, so that THE SUM stays where it is OVER. */
        private final long[] coming = new long[SPAN * SPAN];

        long at(int i, int j) {
            return i >= 0 && i < SPAN && j >= 0 && j < SPAN ? numbers[i * SPAN + j] : 0;
        }

        int notZero() {
            int many = 0;
            for (int p = 0; p < numbers.length; p++) {
                if (numbers[p] != 0) {
                    many++;
                }
            }
            return many;
        }

        void wipe() {
            Arrays.fill(numbers, 0);
        }

        void becomeLike(Sum other) {
            System.arraycopy(other.numbers, 0, numbers, 0, numbers.length);
        }

        private static boolean isBeyond(long number) {
            return number > MOST || number < -MOST;
        }

        private void begin() {
            System.arraycopy(numbers, 0, coming, 0, numbers.length);
        }

        private void settle() {
            System.arraycopy(coming, 0, numbers, 0, numbers.length);
        }

        /** Adds an ORDERED form so often; false: it is OVER. */
        boolean take(long[] orders, int ups, int downs, int often) {
            begin();
            int most = Math.min(ups, downs);
            for (int k = 0; k <= most; k++) {
                int place = (ups - k) * SPAN + downs - k;
                coming[place] += often * orders[k];
                if (isBeyond(coming[place])) {
                    return false;
                }
            }
            settle();
            return true;
        }

        /** Makes it TIMES a WORD; false: it is OVER. */
        boolean multiply(Word word) {
            begin();
            for (int i = 0; i < word.size; i++) {
                boolean fits = word.letters[i] == UP ? comingByUp() : comingByDown();
                if (!fits) {
                    return false;
                }
            }
            settle();
            return true;
        }

        /** Goes through the places so that none is written before it has been used. */
        private boolean comingByUp() {
            for (int j = 0; j < SPAN; j++) {
                if (coming[MAX_LETTERS * SPAN + j] != 0) {
                    return false;
                }
            }
            for (int i = MAX_LETTERS; i >= 0; i--) {
                for (int j = 0; j < SPAN; j++) {
                    long passed = i > 0 ? coming[(i - 1) * SPAN + j] : 0;
                    long met = j < MAX_LETTERS ? (j + 1) * coming[i * SPAN + j + 1] : 0;
                    coming[i * SPAN + j] = passed + met;
                    if (isBeyond(passed + met)) {
                        return false;
                    }
                }
            }
            return true;
        }

        private boolean comingByDown() {
            for (int i = 0; i < SPAN; i++) {
                int row = i * SPAN;
                if (coming[row + MAX_LETTERS] != 0) {
                    return false;
                }
                System.arraycopy(coming, row, coming, row + 1, MAX_LETTERS);
                coming[row] = 0;
            }
            return true;
        }
    }

    /** A BOARD: its SIDE and its rows, each as bits of its columns. */
    private static final class Board {
        static final int FIRST_SIDE = 3;

        int side = FIRST_SIDE;
        final int[] rows = new int[MAX_SIDE];

        void clean(int n) {
            side = n;
            Arrays.fill(rows, 0);
        }

        void becomeLike(Board other) {
            side = other.side;
            System.arraycopy(other.rows, 0, rows, 0, MAX_SIDE);
        }

        boolean isPlace(int i, int j) {
            return i >= 0 && i < side && j >= 0 && j < side;
        }

        boolean has(int i, int j) {
            return (rows[i] >> j & 1) != 0;
        }

        void toggle(int i, int j) {
            rows[i] ^= 1 << j;
        }

        int cells() {
            int cells = 0;
            for (int i = 0; i < side; i++) {
                cells += Integer.bitCount(rows[i]);
            }
            return cells;
        }

        /** A WORD of 6 U and 6 D at most. */
        void becomeWord(Word word) {
            clean(Math.max(1, Math.max(word.ups(), word.downs())));
            int ups = 0;
            int downs = 0;
            for (int p = 0; p < word.size; p++) {
                if (word.letters[p] == DOWN) {
                    downs++;
                    continue;
                }
                for (int i = 0; i < downs && i < side; i++) {
                    rows[i] |= 1 << ups;
                }
                ups++;
            }
        }

        void becomeSteps(int n, int digits) {
            clean(n);
            for (int i = 0; i < n; i++) {
                rows[i] = (1 << digit(digits, n - 1 - i)) - 1;
            }
        }

        void becomeOther() {
            for (int i = 0; i < side; i++) {
                rows[i] ^= (1 << side) - 1;
            }
        }

        void becomeTurned() {
            for (int i = 0; i < side; i++) {
                for (int j = 0; j < i; j++) {
                    if (has(i, j) != has(j, i)) {
                        toggle(i, j);
                        toggle(j, i);
                    }
                }
            }
        }

        void becomeFlipped() {
            for (int i = 0, j = side - 1; i < j; i++, j--) {
                int first = rows[i];
                rows[i] = rows[j];
                rows[j] = first;
            }
        }

        boolean isSteps() {
            int below = 0;
            for (int i = 0; i < side; i++) {
                int height = height(i);
                if (height < below || rows[i] != (1 << height) - 1) {
                    return false;
                }
                below = height;
            }
            return true;
        }

        /** HEIGHT i of a BOARD of STEPS. */
        int height(int i) {
            return Integer.bitCount(rows[i]);
        }

        int heightDigits() {
            int digits = 0;
            for (int i = 0; i < side; i++) {
                digits = digits * 10 + height(i);
            }
            return digits;
        }
    }

    /** All that THE IMAGE holds. */
    private static final class State {
        final Word[] words = new Word[PIECES];
        final Sum sum = new Sum();
        final Board[] boards = new Board[PIECES];
        final int[] weights = new int[MAX_SIDE * MAX_SIDE];
        final int[] seenRooks = new int[MAX_SEEN];
        final int[] seenMany = new int[MAX_SEEN];
        int seenSize;

        State() {
            for (int p = 0; p < PIECES; p++) {
                words[p] = new Word();
                boards[p] = new Board();
            }
            Arrays.fill(weights, 1);
        }

        void becomeLike(State other) {
            for (int p = 0; p < PIECES; p++) {
                words[p].becomeLetters(other.words[p].letters, other.words[p].size);
                boards[p].becomeLike(other.boards[p]);
            }
            sum.becomeLike(other.sum);
            System.arraycopy(other.weights, 0, weights, 0, weights.length);
            System.arraycopy(other.seenRooks, 0, seenRooks, 0, MAX_SEEN);
            System.arraycopy(other.seenMany, 0, seenMany, 0, MAX_SEEN);
            seenSize = other.seenSize;
        }

        int allLetters() {
            int many = 0;
            for (int p = 0; p < PIECES; p++) {
                many += words[p].size;
            }
            return many;
        }

        int allCells() {
            int many = 0;
            for (int p = 0; p < PIECES; p++) {
                many += boards[p].cells();
            }
            return many;
        }

        boolean agreesWithSeen(long key) {
            for (int s = 0; s < seenSize && s < MAX_SEEN; s++) {
                if (Ladder.countInKey(key, seenRooks[s]) != seenMany[s]) {
                    return false;
                }
            }
            return true;
        }
    }

    /** What cell() and weight() made otherwise, the latest last. */
    private static final class Changes {
        static final int MOST = 10;
        /** Stands in place of a BOARD's number. */
        static final int OF_WEIGHT = -1;

        private final int[] boards = new int[MOST];
        private final int[] rows = new int[MOST];
        private final int[] columns = new int[MOST];
        private final int[] weights = new int[MOST];
        int size;

        void forget() {
            size = 0;
        }

        void keep(int board, int i, int j, int weight) {
            if (size >= MOST) {
                dropOldest();
            }
            boards[size] = board;
            rows[size] = i;
            columns[size] = j;
            weights[size] = weight;
            size++;
        }

        private void dropOldest() {
            System.arraycopy(boards, 1, boards, 0, MOST - 1);
            System.arraycopy(rows, 1, rows, 0, MOST - 1);
            System.arraycopy(columns, 1, columns, 0, MOST - 1);
            System.arraycopy(weights, 1, weights, 0, MOST - 1);
            size = MOST - 1;
        }

        void undoLatest(State state) {
            if (size <= 0) {
                return;
            }
            size--;
            if (boards[size] == OF_WEIGHT) {
                state.weights[rows[size] * MAX_SIDE + columns[size]] = weights[size];
            } else {
                state.boards[boards[size]].toggle(rows[size], columns[size]);
            }
        }
    }

    /** Counts, weighs and draws ROOKS; its rows are made once and used by every call. */
    private static final class Rooks {
        static final int[] FACTORIALS = {1, 1, 2, 6, 24, 120, 720};
        /** Above every WEIGHT of ROOKS that can stand. */
        static final int CANNOT = 1000;

        private static final int MASKS = 1 << MAX_SIDE;
        private static final int STANDS = 625;
        private static final int NOT_LISTED = -1;
        private static final int ALL_BUT_SIGN = 0x7fffffff;

        private final int[] ways = new int[MASKS];
        private final int[] counts = new int[MAX_SIDE + 1];
        private final int[] least = new int[(MAX_SIDE + 1) * MASKS];
        private final int[] standWeights = new int[STANDS];
        private final int[] tally = new int[MAX_LISTED_SIDE * MAX_WEIGHT + 1];

        /** COUNT 0 .. 6; the row is used again by the next call. */
        int[] countsOf(Board board) {
            int masks = 1 << board.side;
            Arrays.fill(ways, 0);
            ways[0] = 1;
            for (int i = 0; i < board.side; i++) {
                // From the fullest mask down, so that no row gets two ROOKS.
                for (int mask = masks - 1; mask >= 0; mask--) {
                    if (ways[mask] != 0) {
                        placeOne(board, i, mask);
                    }
                }
            }
            Arrays.fill(counts, 0);
            for (int mask = 0; mask < masks; mask++) {
                counts[Integer.bitCount(mask)] += ways[mask];
            }
            return counts;
        }

        private void placeOne(Board board, int i, int mask) {
            int free = board.rows[i] & ~mask;
            for (int j = 0; j < board.side; j++) {
                if ((free >> j & 1) != 0) {
                    ways[mask | 1 << j] += ways[mask];
                }
            }
        }

        /** HITS k (0 .. 6): k of the ROOKS are told apart, and what has more is taken off by turns. */
        int hitsOf(Board board, int k) {
            countsOf(board);
            int hits = 0;
            int choose = 1;
            for (int m = k; m <= board.side; m++) {
                int part = choose * counts[m] * FACTORIALS[board.side - m];
                hits += (m - k) % 2 == 0 ? part : -part;
                choose = choose * (m + 1) / (m + 1 - k);
            }
            return hits;
        }

        /** The least WEIGHT of k ROOKS, CANNOT or more if they can't stand. */
        int weighCheapest(Board board, int[] weights, int k) {
            int masks = 1 << board.side;
            int last = board.side * MASKS;
            for (int mask = 0; mask < masks; mask++) {
                least[last + mask] = Integer.bitCount(mask) == k ? 0 : CANNOT;
            }
            for (int i = board.side - 1; i >= 0; i--) {
                for (int mask = 0; mask < masks; mask++) {
                    least[i * MASKS + mask] = leastFrom(board, weights, i, mask);
                }
            }
            return least[0];
        }

        private int leastFrom(Board board, int[] weights, int i, int mask) {
            int best = least[(i + 1) * MASKS + mask];
            for (int j = 0; j < board.side; j++) {
                if (board.has(i, j) && (mask >> j & 1) == 0) {
                    best = Math.min(best, leastWith(weights, i, j, mask));
                }
            }
            return best;
        }

        private int leastWith(int[] weights, int i, int j, int mask) {
            return weights[i * MAX_SIDE + j] + least[(i + 1) * MASKS + (mask | 1 << j)];
        }

        /** The column in row i of the CHEAPEST, behind weighCheapest(), for ROOKS that can stand. */
        int cheapestColumn(Board board, int[] weights, int i) {
            int mask = 0;
            int column = NONE;
            for (int r = 0; r <= i && r < board.side; r++) {
                column = columnOfLeast(board, weights, r, mask);
                mask |= column >= 0 ? 1 << column : 0;
            }
            return column;
        }

        private int columnOfLeast(Board board, int[] weights, int i, int mask) {
            for (int j = 0; j < board.side; j++) {
                if (board.has(i, j) && (mask >> j & 1) == 0
                        && leastWith(weights, i, j, mask) == least[i * MASKS + mask]) {
                    return j;
                }
            }
            return NONE;
        }

        /**
         * The at-th of LISTED k as a stand, -1 if there are not as many. A stand has a digit (to the
         * base SIDE plus 1) for each row, row 0 uppermost: the column, or SIDE for none; so stands
         * of one WEIGHT are listed in the order of their numbers.
         */
        int listedStand(Board board, int[] weights, int k, int at) {
            int stands = weighStands(board, weights, k);
            int behind = at;
            int weight = 0;
            while (weight < tally.length && behind >= tally[weight]) {
                behind -= tally[weight];
                weight++;
            }
            if (weight >= tally.length) {
                return NOT_LISTED;
            }
            for (int stand = 0; stand < stands; stand++) {
                if (standWeights[stand] == weight) {
                    if (behind == 0) {
                        return stand;
                    }
                    behind--;
                }
            }
            return NOT_LISTED;
        }

        /** The WEIGHT of what listedStand() found. */
        int listedWeight(int stand) {
            return stand >= 0 && stand < STANDS ? standWeights[stand] : NOT_LISTED;
        }

        private int weighStands(Board board, int[] weights, int k) {
            int stands = 1;
            for (int i = 0; i < board.side && i < MAX_LISTED_SIDE; i++) {
                stands *= board.side + 1;
            }
            Arrays.fill(tally, 0);
            for (int stand = 0; stand < stands; stand++) {
                int weight = weightOfStand(board, weights, stand, k);
                standWeights[stand] = weight;
                if (weight >= 0) {
                    tally[weight]++;
                }
            }
            return stands;
        }

        private static int weightOfStand(Board board, int[] weights, int stand, int k) {
            int rest = stand;
            int mask = 0;
            int weight = 0;
            for (int i = board.side - 1; i >= 0; i--) {
                int j = rest % (board.side + 1);
                rest /= board.side + 1;
                if (j == board.side) {
                    continue;
                }
                if (!board.has(i, j) || (mask >> j & 1) != 0) {
                    return NOT_LISTED;
                }
                mask |= 1 << j;
                weight += weights[i * MAX_SIDE + j];
            }
            return Integer.bitCount(mask) == k ? weight : NOT_LISTED;
        }

        static int columnInStand(int stand, int side, int i) {
            int rest = stand;
            for (int r = side - 1; r > i; r--) {
                rest /= side + 1;
            }
            int column = rest % (side + 1);
            return column == side ? NONE : column;
        }

        /** Of how many orders there is no CELL, or all CELLS that they have. */
        int drawLots(Board board, int many, int seed, boolean without) {
            int z = seed;
            int clean = 0;
            int cells = 0;
            for (int m = 0; m < many; m++) {
                int left = (1 << board.side) - 1;
                int had = cells;
                for (int i = 0; i < board.side; i++) {
                    z = z * 1103515245 + 12345;
                    int bit = bitNumbered(left, (z & ALL_BUT_SIGN) / 65536 % (board.side - i));
                    left ^= bit;
                    cells += (board.rows[i] & bit) != 0 ? 1 : 0;
                }
                clean += cells == had ? 1 : 0;
            }
            return without ? clean : cells;
        }

        /** The bit of a mask that has so many of its bits below it. */
        private static int bitNumbered(int mask, int number) {
            int rest = mask;
            for (int b = 0; b < number; b++) {
                rest &= rest - 1;
            }
            return rest & -rest;
        }
    }

    /** ALL STEPS of one SIDE, with the keys of their COUNTS and the parts that they fall into. */
    private static final class Ladder {
        static final int[] SHIFTS = {63, 57, 48, 36, 23, 10, 0};
        private static final int[] MASKS = {0, 63, 511, 4095, 8191, 8191, 1023};
        private static final int[] SIZES = {1, 2, 6, 20, 70, 252, 924};

        final int size;
        /** HEIGHTS as digits, by number; they rise. */
        final int[] heights;
        final long[] keys;
        int parts;
        private final long[] partKeys;
        final int[] partSizes;
        final int[] partFirsts;

        Ladder(int side) {
            size = SIZES[side];
            heights = new int[size];
            keys = new long[size];
            partKeys = new long[size];
            partSizes = new int[size];
            partFirsts = new int[size];
            int[] row = new int[side];
            int[] counts = new int[MAX_SIDE + 1];
            for (int number = 0; number < size; number++) {
                fillCounts(row, counts);
                heights[number] = digitsOf(row);
                keys[number] = keyOf(counts);
                sortIn(number);
                goOn(row);
            }
        }

        /** A row as high as h behind k - 1 lower ones with ROOKS has h - (k - 1) columns left. */
        private static void fillCounts(int[] row, int[] counts) {
            Arrays.fill(counts, 0);
            counts[0] = 1;
            for (int i = 0; i < row.length; i++) {
                for (int k = i + 1; k >= 1; k--) {
                    counts[k] += (row[i] - k + 1) * counts[k - 1];
                }
            }
        }

        private static int digitsOf(int[] row) {
            int digits = 0;
            for (int i = 0; i < row.length; i++) {
                digits = digits * 10 + row[i];
            }
            return digits;
        }

        /** The HEIGHTS that come next: the last one that can grows, those behind it become as high. */
        private static void goOn(int[] row) {
            int i = row.length - 1;
            while (i >= 0 && row[i] >= row.length) {
                i--;
            }
            int height = i >= 0 ? row[i] + 1 : row.length;
            for (int behind = Math.max(i, 0); behind < row.length; behind++) {
                row[behind] = height;
            }
        }

        private void sortIn(int number) {
            int part = firstPartFrom(keys[number]);
            if (part < parts && partKeys[part] == keys[number]) {
                partSizes[part]++;
                return;
            }
            System.arraycopy(partKeys, part, partKeys, part + 1, parts - part);
            System.arraycopy(partSizes, part, partSizes, part + 1, parts - part);
            System.arraycopy(partFirsts, part, partFirsts, part + 1, parts - part);
            partKeys[part] = keys[number];
            partSizes[part] = 1;
            partFirsts[part] = number;
            parts++;
        }

        /** The first part whose key isn't less; parts, if there is none. */
        private int firstPartFrom(long key) {
            int low = 0;
            int high = parts;
            while (low < high) {
                int middle = (low + high) / 2;
                if (partKeys[middle] < key) {
                    low = middle + 1;
                } else {
                    high = middle;
                }
            }
            return low;
        }

        /** The part with this key, -1 if there is none. */
        int partOf(long key) {
            int part = firstPartFrom(key);
            return part < parts && partKeys[part] == key ? part : -1;
        }

        int greatestPart() {
            int greatest = 0;
            for (int part = 0; part < parts; part++) {
                greatest = Math.max(greatest, partSizes[part]);
            }
            return greatest;
        }

        int numberOf(int digits) {
            for (int number = 0; number < size; number++) {
                if (heights[number] == digits) {
                    return number;
                }
            }
            return MISSING;
        }

        /** COUNT k (0 .. 6) of a key; 0 of k above the SIDE, since its part of the key is 0. */
        static int countInKey(long key, int k) {
            return k == 0 ? 1 : (int) (key >>> SHIFTS[k]) & MASKS[k];
        }
    }

    /** THE TAPE of bytes, and how a TEXT on it is read. */
    private static final class Text {
        static final int NO_FAULT = -1;
        private static final int MOST = 80;
        private static final int MOST_OPEN = 4;
        private static final char OPEN = '(', CLOSE = ')';

        private final int[] bytes = new int[MOST];
        int size;
        /** Of each open group 12 letters, and the letters of one ITEM more. */
        final int[] letters = new int[(MOST_OPEN + 2) * MAX_LETTERS];
        private final int[] starts = new int[MOST_OPEN + 1];

        boolean push(int sign) {
            if (size >= MOST) {
                return false;
            }
            bytes[size] = sign;
            size++;
            return true;
        }

        private boolean isFigure(int place) {
            return place < size && bytes[place] >= '0' && bytes[place] <= '9';
        }

        private boolean isLetter(int place) {
            return bytes[place] == 'U' || bytes[place] == 'D';
        }

        int fault() {
            int open = 0;
            boolean itemAhead = false;
            boolean figureMayCome = false;
            for (int p = 0; p < size; p++) {
                if (isLetter(p)) {
                    itemAhead = true;
                    figureMayCome = true;
                } else if (bytes[p] == OPEN && open < MOST_OPEN) {
                    open++;
                    itemAhead = false;
                    figureMayCome = false;
                } else if (bytes[p] == CLOSE && open > 0 && itemAhead) {
                    open--;
                    figureMayCome = true;
                } else if (isFigure(p) && figureMayCome) {
                    figureMayCome = false;
                } else {
                    return p;
                }
            }
            return open == 0 && itemAhead ? NO_FAULT : size;
        }

        /** Spells a TEXT without a FAULT out into letters: how many, or FULL. */
        int spell() {
            int top = 0;
            int open = 0;
            starts[0] = 0;
            for (int p = 0; p < size; p++) {
                if (bytes[p] == OPEN) {
                    open = Math.min(open + 1, MOST_OPEN);
                    starts[open] = top;
                    continue;
                }
                int from = top;
                if (bytes[p] == CLOSE) {
                    from = starts[open];
                    open = Math.max(open - 1, 0);
                } else {
                    letters[top] = bytes[p] == 'U' ? UP : DOWN;
                    top++;
                }
                if (isFigure(p + 1)) {
                    p++;
                    top = repeat(from, top, bytes[p] - '0');
                }
                if (top < 0 || top - starts[open] > MAX_LETTERS) {
                    return FULL;
                }
            }
            return top;
        }

        /** The letters from a place on so often: where they end, or FULL if they are more than 12. */
        private int repeat(int from, int to, int often) {
            int once = to - from;
            int end = from + once * often;
            if (end - from > MAX_LETTERS) {
                return FULL;
            }
            for (int place = to; place < end; place++) {
                letters[place] = letters[place - once];
            }
            return end;
        }
    }

    /** THE PAPER: the bytes of the WORD written latest. */
    private static final class Paper {
        /** No run of letters takes more bytes than it has letters. */
        final int[] bytes = new int[MAX_LETTERS];
        int size;

        void putWord(Word word) {
            size = 0;
            int i = 0;
            while (i < word.size) {
                int alike = 1;
                while (alike < 9 && i + alike < word.size && word.letters[i + alike] == word.letters[i]) {
                    alike++;
                }
                putByte(word.letters[i] == UP ? 'U' : 'D');
                if (alike > 1) {
                    putByte('0' + alike);
                }
                i += alike;
            }
        }

        private void putByte(int sign) {
            if (size < bytes.length) {
                bytes[size] = sign;
                size++;
            }
        }
    }

    /** A TAPE: every sort is held as longs, cut to what an item of its sort can be. */
    private static final class Tape {
        int sort = HOLDS_NOTHING;
        int size;
        final long[] items = new long[MAX_ITEMS];

        void become(int newSort, int n) {
            sort = newSort;
            size = n;
            Arrays.fill(items, 0);
        }

        boolean hasPart(int from, int n) {
            return n >= 0 && from >= 0 && n <= size && from <= size - n;
        }

        long asItem(long v) {
            switch (sort) {
                case BYTES:
                    return (byte) v;
                case SHORTS:
                    return (short) v;
                case INTS:
                    return (int) v;
                case BOOLEANS:
                    return v != 0 ? 1 : 0;
                default:
                    return v;
            }
        }
    }
}
