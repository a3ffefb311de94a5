/** For each promise of the document calls whose answers were worked out by hand. */
public final class PromiseTest {
    private static final int NONE = -1, BAD = -2, STATE = -3, FULL = -4, OVER = -6;
    private static final int NOTHING = -11, CAST = -12, PLACE = -13, SIZE = -14;
    private static final long NO = Long.MIN_VALUE;
    private static final int[] NO_PIECES = {-1, 6, Integer.MIN_VALUE, Integer.MAX_VALUE};

    private static int wrong;
    private static int promise;
    private static int row;

    private static void begin(int number) {
        promise = number;
        row = 0;
    }

    private static void due(long want, long got) {
        row++;
        if (got != want) {
            wrong++;
            System.out.println("promise " + promise + ", row " + row + ": answered " + got + ", due is " + want);
        }
    }

    private static RookWords with(String... words) {
        RookWords x = new RookWords();
        for (int w = 0; w < words.length; w++) put(x, w, words[w]);
        return x;
    }

    private static void put(RookWords x, int word, String letters) {
        x.empty(word);
        for (char letter : letters.toCharArray()) x.letter(word, letter == 'U' ? 0 : 1);
    }

    private static String spelled(RookWords x, int word) {
        StringBuilder letters = new StringBuilder();
        for (int i = 0; i < x.word(word, -1); i++) letters.append(x.word(word, i) == 0 ? 'U' : 'D');
        return letters.toString();
    }

    private static void dueWord(String want, RookWords x, int word) {
        row++;
        if (!want.equals(spelled(x, word))) {
            wrong++;
            System.out.println("promise " + promise + ", row " + row + ": the word is " + spelled(x, word)
                + ", due is " + want);
        }
    }

    private static void dueRows(RookWords x, int board, int... want) {
        for (int i = 0; i < want.length; i++) due(want[i], x.row(board, i));
        due(NONE, x.row(board, want.length));
    }

    /** A BOARD by its rows as bits. */
    private static void lay(RookWords x, int board, int... rows) {
        x.side(board, rows.length);
        for (int i = 0; i < rows.length; i++) {
            for (int j = 0; j < rows.length; j++) if ((rows[i] >> j & 1) != 0) x.cell(board, i, j);
        }
    }

    private static int readText(RookWords x, int word, String text) {
        for (char sign : text.toCharArray()) x.feed(sign);
        return x.read(word);
    }

    private static String written(RookWords x) {
        StringBuilder bytes = new StringBuilder();
        for (int i = 0; i < x.told(4); i++) bytes.append((char) x.paper(i));
        return bytes.toString();
    }

    private static void dueWritten(String want, RookWords x, int word) {
        due(want.length(), x.write(word));
        row++;
        if (!want.equals(written(x))) {
            wrong++;
            System.out.println("promise " + promise + ", row " + row + ": written is " + written(x)
                + ", due is " + want);
        }
    }

    private static void newObject() {
        begin(1);
        RookWords x = new RookWords();
        for (int p = 0; p < 6; p++) {
            due(0, x.word(p, -1));
            due(3, x.of(p, 0));
            due(0, x.of(p, 1));
            due(NO, x.peek(p, 0));
            due(NOTHING, x.item(p, 0, 1));
            for (int j = 0; j < 6; j++) due(1, x.weight(p, j, 1));
        }
        for (int what = 0; what <= 6; what++) due(0, x.told(what));
        due(STATE, x.undo());
        due(STATE, x.restore());
        due(0, x.clear());
        due(NONE, x.paper(0));
        due(-1, RookWords.NONE);
        due(-2, RookWords.BAD);
        due(-3, RookWords.STATE);
        due(-4, RookWords.FULL);
        due(-6, RookWords.OVER);
        due(Long.MIN_VALUE, RookWords.NO);
    }

    private static void letter() {
        begin(2);
        RookWords x = new RookWords();
        for (int i = 1; i <= 12; i++) due(i, x.letter(5, i % 2));
        due(FULL, x.letter(5, 0));
        due(BAD, x.letter(5, 2));
        due(BAD, x.letter(0, -1));
        for (int p : NO_PIECES) due(NONE, x.letter(p, 2));
        dueWord("DUDUDUDUDUDU", x, 5);
        due(12, x.told(0));
    }

    private static void empty() {
        begin(3);
        RookWords x = with("UUD", "D");
        due(3, x.empty(0));
        due(0, x.empty(0));
        dueWord("", x, 0);
        dueWord("D", x, 1);
        for (int p : NO_PIECES) due(NONE, x.empty(p));
    }

    private static void make() {
        begin(4);
        RookWords x = with("UDUDUD");
        String[] made = {"UUUDDD", "UDUDUD", "DUDUDU", "DDDUUU", "UDDDU", "DUDDUDDDU"};
        for (int kind = 0; kind < 6; kind++) {
            due(made[kind].length(), x.make(0, kind, 3));
            dueWord(made[kind], x, 0);
            due(kind == 4 ? 2 : 0, x.make(1, kind, 0));
            dueWord(kind == 4 ? "UU" : "", x, 1);
        }
        due(2, x.make(0, 5, 1));
        due(5, x.make(0, 5, 2));
        due(9, x.make(0, 5, 4));
        dueWord("DUDDUDDDU", x, 0);
        due(8, x.make(0, 4, 6));
        for (int kind = 0; kind < 4; kind++) due(12, x.make(0, kind, 6));
        dueWord("DDDDDDUUUUUU", x, 0);
        for (int p : NO_PIECES) {
            due(NONE, x.make(p, 0, 7));
            due(NONE, x.make(0, p, 7));
        }
        due(BAD, x.make(0, 0, 7));
        due(BAD, x.make(0, 0, -1));
        dueWord("DDDDDDUUUUUU", x, 0);
    }

    private static void join() {
        begin(5);
        RookWords x = with("UUD", "DU", "UUUUUUU");
        due(5, x.join(0, 1));
        dueWord("UUDDU", x, 0);
        dueWord("DU", x, 1);
        due(4, x.join(1, 1));
        dueWord("DUDU", x, 1);
        due(12, x.join(0, 2));
        due(12, x.join(0, 5));
        due(FULL, x.join(0, 1));
        due(FULL, x.join(2, 2));
        dueWord("UUUUUUU", x, 2);
        for (int p : NO_PIECES) {
            due(NONE, x.join(p, 0));
            due(NONE, x.join(0, p));
        }
    }

    private static void turn() {
        begin(6);
        RookWords x = with("UUD", "UD", "", "DDUDD");
        due(3, x.turn(0));
        dueWord("UDD", x, 0);
        due(2, x.turn(1));
        dueWord("UD", x, 1);
        due(0, x.turn(2));
        due(5, x.turn(3));
        dueWord("UUDUU", x, 3);
        for (int p : NO_PIECES) due(NONE, x.turn(p));
    }

    private static void word() {
        begin(7);
        RookWords x = with("UUD");
        due(0, x.word(0, 0));
        due(0, x.word(0, 1));
        due(1, x.word(0, 2));
        due(3, x.word(0, -1));
        due(2, x.word(0, -2));
        due(-5, x.word(0, 3));
        due(-5, x.word(1, 0));
        due(-5, x.word(0, Integer.MAX_VALUE));
        due(NONE, x.word(0, -3));
        for (int p : NO_PIECES) due(NONE, x.word(p, -1));
    }

    private static void acted() {
        begin(8);
        RookWords x = with("UUD", "DDU", "UD", "DDDDDDDDDDDD", "");
        due(3, x.acted(0, 3, 0));
        due(4, x.acted(0, 3, 1));
        due(20, x.acted(1, 4, 0));
        due(3, x.acted(1, 4, 1));
        due(0, x.acted(2, 0, 0));
        due(1, x.acted(2, 0, 1));
        due(20L * 19 * 18 * 17 * 16 * 15 * 14 * 13 * 12 * 11 * 10 * 9, x.acted(3, 20, 0));
        due(8, x.acted(3, 20, 1));
        due(479001600, x.acted(3, 12, 0));
        due(0, x.acted(3, 11, 0));
        due(0, x.acted(3, 11, 1));
        due(1, x.acted(4, 7, 0));
        due(7, x.acted(4, 7, 1));
        due(NO, x.acted(0, -1, 0));
        due(NO, x.acted(0, 21, 0));
        due(NO, x.acted(0, 3, 2));
        due(NO, x.acted(0, 3, -1));
        for (int p : NO_PIECES) due(NO, x.acted(p, 3, 0));
    }

    private static void order() {
        begin(9);
        RookWords x = with("DU", "DDUU", "UUDD", "DDDDDDUUUUUU", "DUDDU", "DDDDDDDDDDDU");
        long[][] want = {{1, 1, 0}, {1, 4, 2, 0}, {1, 0, 0}, {1, 36, 450, 2400, 5400, 4320, 720, 0}, {1, 4, 2, 0},
            {1, 11, 0}};
        for (int w = 0; w < 6; w++) for (int k = 0; k < want[w].length; k++) due(want[w][k], x.order(w, k));
        due(0, x.order(0, 13));
        due(0, x.order(0, Integer.MAX_VALUE));
        due(NO, x.order(0, -1));
        for (int p : NO_PIECES) due(NO, x.order(p, 0));
        x.empty(0);
        due(1, x.order(0, 0));
        due(0, x.order(0, 1));
    }

    private static void clear() {
        begin(10);
        RookWords x = with("DDUU");
        due(0, x.clear());
        x.add(0, 2);
        due(3, x.clear());
        due(0, x.number(1, 1));
        due(0, x.told(6));
        due(0, x.clear());
    }

    private static void add() {
        begin(11);
        RookWords x = with("DDUU", "UUDD", "UD", "");
        due(3, x.add(0, 3));
        due(3, x.number(2, 2));
        due(12, x.number(1, 1));
        due(6, x.number(0, 0));
        due(2, x.add(1, -3));
        due(0, x.number(2, 2));
        due(1, x.add(2, -12));
        due(0, x.add(3, -6));
        due(0, x.add(0, 0));
        due(1, x.add(2, 99));
        due(0, x.add(2, -99));
        due(BAD, x.add(0, 100));
        due(BAD, x.add(0, -100));
        for (int p : NO_PIECES) due(NONE, x.add(p, 100));
        due(0, x.told(6));
    }

    /** THE SUM as so many times 720 and so much more, by differences of D .. U U U U U U .. D. */
    private static RookWords constant(int times, int more) {
        RookWords x = new RookWords();
        int[] often = {1, 6, 15, 20, 15, 6, 1};
        for (int a = 0; a <= 6; a++) {
            put(x, 0, "D".repeat(a) + "UUUUUU" + "D".repeat(6 - a));
            for (int t = 0; t < often[a]; t++) x.add(0, a % 2 == 0 ? times : -times);
        }
        x.empty(0);
        x.add(0, more);
        put(x, 1, "DDDDDDDDDDDD");
        put(x, 2, "UUUUUUUUUUUU");
        return x;
    }

    private static void times() {
        begin(12);
        RookWords x = with("D", "U", "UUUUUUUUUUUU", "DDDDDDDDDDDD", "DU", "");
        due(0, x.times(0));
        x.add(0, 5);
        due(2, x.times(1));
        due(5, x.number(1, 1));
        due(5, x.number(0, 0));
        due(2, x.times(5));
        due(OVER, x.times(2));
        due(OVER, x.times(3));
        due(5, x.number(1, 1));
        due(3, x.times(4));
        due(5, x.number(2, 2));
        due(15, x.number(1, 1));
        due(5, x.number(0, 0));
        x.clear();
        x.add(2, 1);
        due(OVER, x.times(1));
        due(1, x.times(3));
        due(1, x.number(12, 12));
        due(OVER, x.times(0));
        due(OVER, x.times(4));
        due(1, x.number(12, 12));
        for (int p : NO_PIECES) due(NONE, x.times(p));
        timesBeyond();
    }

    /** D 12 times, U 12 times has 17563392000 times U U U D D D: 56936 of these are below 10^15, 56937 beyond. */
    private static void timesBeyond() {
        for (int sign = -1; sign <= 1; sign += 2) {
            RookWords x = constant(79 * sign, 56 * sign);
            due(56936L * sign, x.number(0, 0));
            due(1, x.told(6));
            due(1, x.times(1));
            due(13, x.times(2));
            due(56936L * 17563392000L * sign, x.number(3, 3));
            x = constant(79 * sign, 57 * sign);
            due(1, x.times(1));
            due(OVER, x.times(2));
            due(56937L * sign, x.number(0, 12));
            due(1, x.told(6));
        }
    }

    /**
     * THE SUM, three letters U ahead of 10^15 times U U U D D D: ahead of each U so many letters D are added that
     * what is still missing comes to less than one of them.
     */
    private static RookWords nearTheBrim(int sign, int last) {
        RookWords x = constant(79 * sign, 56 * sign);
        x.times(1);
        int[] often = {9, 11, 6, 12, 11, 9, 6, 2, last};
        for (int m = 0; m < often.length; m++) {
            put(x, 3, "U");
            x.times(3);
            put(x, 3, "D".repeat(11 - m));
            x.add(3, often[m] * sign);
        }
        put(x, 3, "UUU");
        put(x, 4, "UUUDDD");
        return x;
    }

    /** 10^15 itself is not beyond. */
    private static void atTheBrim() {
        long most = 1_000_000_000_000_000L;
        for (int sign = -1; sign <= 1; sign += 2) {
            begin(12);
            RookWords x = nearTheBrim(sign, 9);
            due(OVER, x.times(3));
            x = nearTheBrim(sign, 8);
            due(13, x.times(3));
            due(most * sign, x.number(3, 3));
            begin(11);
            due(OVER, x.add(4, sign));
            due(most * sign, x.number(3, 3));
            due(13, x.add(4, -sign));
            due((most - 1) * sign, x.number(3, 3));
            due(OVER, x.add(4, 2 * sign));
            due(13, x.add(4, sign));
            due(most * sign, x.number(3, 3));
            put(x, 5, "DUUUDD");
            long had = x.number(2, 2);
            due(OVER, x.add(5, sign));
            due(had, x.number(2, 2));
        }
    }

    private static void number() {
        begin(13);
        RookWords x = with("UUD");
        x.add(0, -7);
        due(-7, x.number(2, 1));
        due(0, x.number(1, 2));
        due(0, x.number(-1, 0));
        due(0, x.number(0, -1));
        due(0, x.number(13, 0));
        due(0, x.number(0, 13));
        due(0, x.number(1, 14));
        put(x, 0, "U");
        x.add(0, 3);
        due(3, x.number(1, 0));
        due(0, x.number(0, 13));
        due(0, x.number(2, -13));
        due(0, x.number(Integer.MAX_VALUE, Integer.MIN_VALUE));
    }

    private static void side() {
        begin(14);
        RookWords x = new RookWords();
        x.cell(0, 1, 1);
        due(3, x.side(0, 6));
        due(6, x.of(0, 0));
        due(0, x.of(0, 1));
        due(STATE, x.undo());
        due(6, x.side(0, 1));
        due(1, x.side(0, 1));
        x.cell(0, 0, 0);
        due(BAD, x.side(0, 0));
        due(BAD, x.side(0, 7));
        for (int p : NO_PIECES) due(NONE, x.side(p, 0));
        due(1, x.row(0, 0));
        due(1, x.told(2));
        due(3, x.of(1, 0));
    }

    private static void cell() {
        begin(15);
        RookWords x = new RookWords();
        due(1, x.cell(0, 2, 1));
        due(2, x.cell(0, 0, 0));
        due(1, x.cell(0, 2, 1));
        dueRows(x, 0, 1, 0, 0);
        due(NONE, x.cell(0, 3, 0));
        due(NONE, x.cell(0, 0, 3));
        due(NONE, x.cell(0, -1, 0));
        due(NONE, x.cell(0, 0, -1));
        for (int p : NO_PIECES) due(NONE, x.cell(p, 0, 0));
        x.side(0, 6);
        due(1, x.cell(0, 5, 5));
        due(32, x.row(0, 5));
        due(1, x.told(1));
    }

    private static void board() {
        begin(16);
        RookWords x = with("DUDDU", "UUU", "", "DDDDDDDU", "UUUUUUU", "DDDDDDUUUUUU");
        due(4, x.board(0, 0));
        dueRows(x, 0, 3, 2, 2);
        due(0, x.board(0, 1));
        due(3, x.of(0, 0));
        due(0, x.board(0, 2));
        due(1, x.of(0, 0));
        due(36, x.board(0, 5));
        dueRows(x, 0, 63, 63, 63, 63, 63, 63);
        x.cell(0, 0, 0);
        due(STATE, x.board(0, 3));
        due(STATE, x.board(0, 4));
        due(1, x.told(2));
        for (int p : NO_PIECES) {
            due(NONE, x.board(p, 4));
            due(NONE, x.board(0, p));
        }
        due(35, x.of(0, 1));
        x.board(1, 0);
        due(0, x.told(2));
    }

    private static void steps() {
        begin(17);
        RookWords x = new RookWords();
        due(4, x.steps(0, 3, 13));
        dueRows(x, 0, 0, 1, 7);
        due(0, x.steps(0, 1, 0));
        due(1, x.steps(0, 1, 1));
        due(36, x.steps(0, 6, 666666));
        due(0, x.steps(0, 6, 0));
        due(3, x.steps(0, 2, 12));
        x.cell(0, 0, 1);
        due(BAD, x.steps(0, 0, 0));
        due(BAD, x.steps(0, 7, 0));
        due(BAD, x.steps(0, 2, -1));
        due(BAD, x.steps(0, 2, 3));
        due(BAD, x.steps(0, 2, 21));
        due(BAD, x.steps(0, 2, 112));
        due(BAD, x.steps(0, 2, 100));
        due(BAD, x.steps(0, 6, Integer.MAX_VALUE));
        due(BAD, x.steps(0, 6, Integer.MIN_VALUE));
        due(BAD, x.steps(0, 6, 7));
        due(BAD, x.steps(0, 3, 120));
        for (int p : NO_PIECES) due(NONE, x.steps(p, 0, 0));
        dueRows(x, 0, 3, 3);
        due(1, x.told(2));
        due(6, x.steps(1, 3, 123));
        due(0, x.told(2));
    }

    private static void other() {
        begin(18);
        RookWords x = new RookWords();
        lay(x, 0, 1, 6, 0);
        due(6, x.other(0));
        dueRows(x, 0, 6, 1, 7);
        due(0, x.told(2));
        due(3, x.other(0));
        for (int p : NO_PIECES) due(NONE, x.other(p));
        x.side(0, 6);
        due(36, x.other(0));
    }

    private static void turned() {
        begin(19);
        RookWords x = new RookWords();
        lay(x, 0, 3, 4, 0);
        due(3, x.turned(0));
        dueRows(x, 0, 1, 1, 2);
        due(0, x.told(2));
        due(3, x.turned(0));
        dueRows(x, 0, 3, 4, 0);
        for (int p : NO_PIECES) due(NONE, x.turned(p));
        x.steps(0, 6, 123456);
        due(21, x.turned(0));
        dueRows(x, 0, 63, 62, 60, 56, 48, 32);
    }

    private static void flipped() {
        begin(20);
        RookWords x = new RookWords();
        lay(x, 0, 3, 4, 0);
        due(3, x.flipped(0));
        dueRows(x, 0, 0, 4, 3);
        due(0, x.told(2));
        lay(x, 0, 1, 2, 4, 15);
        due(7, x.flipped(0));
        dueRows(x, 0, 15, 4, 2, 1);
        for (int p : NO_PIECES) due(NONE, x.flipped(p));
    }

    private static void row() {
        begin(21);
        RookWords x = new RookWords();
        lay(x, 5, 1, 10, 15, 0);
        dueRows(x, 5, 1, 10, 15, 0);
        due(NONE, x.row(5, -1));
        due(NONE, x.row(5, 5));
        due(NONE, x.row(0, 3));
        for (int p : NO_PIECES) due(NONE, x.row(p, 0));
    }

    private static void of() {
        begin(22);
        RookWords x = new RookWords();
        lay(x, 0, 1, 3, 3, 7);
        // 35 begin with 0, 10 with 1 1, and 1222 stands ahead.
        long[] want = {4, 8, 1, 35 + 10 + 1, 3};
        for (int what = 0; what < 5; what++) due(want[what], x.of(0, what));
        lay(x, 1, 2, 3);
        due(0, x.of(1, 2));
        due(-5, x.of(1, 3));
        due(2, x.of(1, 4));
        lay(x, 1, 3, 1);
        due(0, x.of(1, 2));
        lay(x, 1, 1, 1);
        due(1, x.of(1, 2));
        due(3, x.of(1, 3));
        due(1, x.of(1, 4));
        due(0, x.of(2, 3));
        due(0, x.of(2, 4));
        x.steps(3, 6, 666666);
        due(923, x.of(3, 3));
        due(6, x.of(3, 4));
        due(NONE, x.of(0, 5));
        due(NONE, x.of(0, -1));
        for (int p : NO_PIECES) due(NONE, x.of(p, 0));
    }

    private static void count() {
        begin(23);
        RookWords x = new RookWords();
        lay(x, 0, 3, 3, 4);
        int[] want = {1, 5, 6, 2, 0, 0, 0, 0};
        for (int k = 0; k < want.length; k++) due(want[k], x.count(0, k));
        x.steps(1, 6, 666666);
        int[] full = {1, 36, 450, 2400, 5400, 4320, 720, 0};
        for (int k = 0; k < full.length; k++) due(full[k], x.count(1, k));
        due(0, x.count(0, Integer.MAX_VALUE));
        due(1, x.count(2, 0));
        due(0, x.count(2, 1));
        due(NONE, x.count(0, -1));
        for (int p : NO_PIECES) due(NONE, x.count(p, 0));
    }

    private static void hits() {
        begin(24);
        RookWords x = new RookWords();
        lay(x, 0, 1, 2, 4);
        int[] want = {2, 3, 0, 1, 0, 0, 0, 0};
        for (int k = 0; k < want.length; k++) due(want[k], x.hits(0, k));
        lay(x, 1, 1, 2, 4, 8, 16, 32);
        int[] six = {265, 264, 135, 40, 15, 0, 1, 0};
        for (int k = 0; k < six.length; k++) due(six[k], x.hits(1, k));
        due(6, x.hits(2, 0));
        due(0, x.hits(0, Integer.MAX_VALUE));
        due(NONE, x.hits(0, -1));
        for (int p : NO_PIECES) due(NONE, x.hits(p, 0));
    }

    private static void factored() {
        begin(25);
        RookWords x = new RookWords();
        lay(x, 0, 3, 3, 4);
        due(2, x.factored(0, 0));
        due(0 + 0 + 6 + 2, x.factored(0, 1));
        due(24 + 5 * 12 + 6 * 4 + 2, x.factored(0, 4));
        x.steps(1, 6, 666666);
        due(26L * 25 * 24 * 23 * 22 * 21, x.factored(1, 20));
        due(NO, x.factored(0, -1));
        due(NO, x.factored(0, 21));
        for (int p : NO_PIECES) due(NO, x.factored(p, 0));
    }

    private static void bySteps() {
        begin(26);
        RookWords x = new RookWords();
        x.steps(0, 3, 133);
        due(3 * 4 * 3, x.bySteps(0, 2));
        due(1 * 2 * 1, x.bySteps(0, 0));
        x.steps(0, 3, 0);
        due(0, x.bySteps(0, 2));
        due(20 * 19 * 18, x.bySteps(0, 20));
        x.steps(0, 3, 1);
        due(0 * -1 * -1, x.bySteps(0, 0));
        due(NO, x.bySteps(0, -1));
        due(NO, x.bySteps(0, 21));
        x.other(0);
        due(NO, x.bySteps(0, 2));
        for (int p : NO_PIECES) due(NO, x.bySteps(p, 0));
    }

    private static void all() {
        begin(27);
        RookWords x = new RookWords();
        int[][] two = {{0, 0}, {0, 1}, {0, 2}, {1, 1}, {1, 2}, {2, 2}};
        for (int n = 0; n < 6; n++) for (int i = 0; i < 2; i++) due(two[n][i], x.all(2, n, i));
        int[] many = {2, 6, 20, 70, 252, 924};
        for (int n = 1; n <= 6; n++) {
            due(many[n - 1], x.all(n, -77, -1));
            due(-5, x.all(n, many[n - 1], 0));
            due(n, x.all(n, many[n - 1] - 1, n - 1));
            due(NONE, x.all(n, 0, n));
        }
        due(-5, x.all(2, -1, 0));
        due(NONE, x.all(2, 9, -2));
        due(BAD, x.all(0, 0, -2));
        due(BAD, x.all(7, 0, 0));
    }

    private static void like() {
        begin(28);
        RookWords x = new RookWords();
        lay(x, 0, 0, 3);
        due(2, x.like(0, 0));
        due(2, x.like(0, 1));
        lay(x, 0, 1, 2);
        due(0, x.like(0, 0));
        due(-5, x.like(0, 1));
        x.steps(1, 6, 666666);
        due(1, x.like(1, 0));
        due(923, x.like(1, 1));
        due(1, x.like(2, 0));
        due(0, x.like(2, 1));
        due(NONE, x.like(0, 2));
        due(NONE, x.like(0, -1));
        for (int p : NO_PIECES) due(NONE, x.like(p, 0));
    }

    private static void classes() {
        begin(29);
        RookWords x = new RookWords();
        due(5, x.classes(2, -1, 0));
        due(2, x.classes(2, -1, 1));
        int[] sizes = {1, 1, 2, 1, 1};
        int[] firsts = {0, 1, 2, 4, 5};
        for (int i = 0; i < 5; i++) {
            due(sizes[i], x.classes(2, i, 0));
            due(firsts[i], x.classes(2, i, 1));
        }
        due(-5, x.classes(2, 5, 0));
        due(-5, x.classes(2, Integer.MAX_VALUE, 1));
        due(2, x.classes(1, -1, 0));
        due(1, x.classes(1, -1, 1));
        due(NONE, x.classes(2, -2, 0));
        due(NONE, x.classes(2, 0, 2));
        due(NONE, x.classes(2, 99, -1));
        due(BAD, x.classes(0, -2, 0));
        due(BAD, x.classes(7, 0, 0));
        int all = 0;
        for (int i = 0; i < x.classes(6, -1, 0); i++) all += x.classes(6, i, 0);
        due(924, all);
    }

    private static void see() {
        begin(30);
        RookWords x = new RookWords();
        due(1, x.see(0, 0));
        due(2, x.see(6, 9999));
        due(NONE, x.see(7, 10000));
        due(NONE, x.see(-2, 0));
        due(BAD, x.see(1, -1));
        due(BAD, x.see(1, 10000));
        due(3, x.see(1, 1));
        due(4, x.see(1, 1));
        due(FULL, x.see(1, 1));
        due(BAD, x.see(1, 10000));
        due(4, x.told(5));
        due(0, x.see(-1, -99));
        due(0, x.told(5));
        due(0, x.see(-1, 0));
    }

    private static void fits() {
        begin(31);
        RookWords x = new RookWords();
        due(20, x.fits(3, 0));
        due(0, x.fits(3, 1));
        x.see(1, 2);
        due(2, x.fits(2, 0));
        due(2, x.fits(2, 1));
        x.see(4, 0);
        due(2, x.fits(2, 0));
        x.see(0, 1);
        due(2, x.fits(2, 0));
        x.see(2, 1);
        due(0, x.fits(2, 0));
        due(-5, x.fits(2, 1));
        x.see(-1, 0);
        x.see(6, 720);
        due(1, x.fits(6, 0));
        due(923, x.fits(6, 1));
        due(0, x.fits(5, 0));
        for (int k = 3; k <= 5; k++) x.see(k, new int[] {2400, 5400, 4320}[k - 3]);
        due(1, x.fits(6, 0));
        x.see(-1, 0);
        x.see(0, 0);
        due(0, x.fits(6, 0));
        due(BAD, x.fits(0, 2));
        due(BAD, x.fits(7, 0));
        due(NONE, x.fits(1, 2));
        due(NONE, x.fits(1, -1));
    }

    private static void weight() {
        begin(32);
        RookWords x = new RookWords();
        due(1, x.weight(5, 5, 9));
        due(9, x.weight(5, 5, 0));
        due(0, x.weight(5, 5, 0));
        due(1, x.weight(0, 5, 3));
        due(1, x.weight(5, 0, 3));
        for (int p : NO_PIECES) {
            due(NONE, x.weight(p, 0, 10));
            due(NONE, x.weight(0, p, 10));
        }
        due(BAD, x.weight(0, 0, 10));
        due(BAD, x.weight(0, 0, -1));
        due(4, x.told(2));
    }

    private static void cheapest() {
        begin(33);
        RookWords x = new RookWords();
        lay(x, 0, 7, 7, 3);
        x.weight(0, 0, 5);
        x.weight(1, 1, 0);
        int[][] want = {{0, -1, -1, -1}, {0, -1, 1, -1}, {1, 2, 1, -1}, {2, 2, 1, 0}};
        for (int k = 0; k < 4; k++) for (int i = -1; i < 3; i++) due(want[k][i + 1], x.cheapest(0, k, i));
        for (int i = -1; i < 3; i++) due(-5, x.cheapest(0, 4, i));
        due(-5, x.cheapest(0, Integer.MAX_VALUE, 0));
        due(-5, x.cheapest(1, 1, 0));
        due(0, x.cheapest(1, 0, -1));
        due(NONE, x.cheapest(0, 1, 3));
        due(NONE, x.cheapest(0, -1, -2));
        due(NONE, x.cheapest(0, -1, 3));
        due(BAD, x.cheapest(0, -1, 2));
        for (int p : NO_PIECES) due(NONE, x.cheapest(p, -1, 0));
        x.steps(2, 6, 666666);
        x.weight(0, 0, 1);
        x.weight(1, 1, 1);
        for (int i = 0; i < 6; i++) due(i < 4 ? i : -1, x.cheapest(2, 4, i));
        due(6, x.cheapest(2, 6, -1));
    }

    private static void listed() {
        begin(34);
        RookWords x = new RookWords();
        lay(x, 0, 3, 3);
        x.weight(0, 0, 2);
        x.weight(1, 1, 2);
        int[][] one = {{1, 1, -1}, {1, -1, 0}, {2, 0, -1}, {2, -1, 1}};
        for (int at = 0; at < 4; at++) for (int i = -1; i < 2; i++) due(one[at][i + 1], x.listed(0, 1, at, i));
        int[][] two = {{2, 1, 0}, {4, 0, 1}};
        for (int at = 0; at < 2; at++) for (int i = -1; i < 2; i++) due(two[at][i + 1], x.listed(0, 2, at, i));
        due(-5, x.listed(0, 1, 4, -1));
        due(-5, x.listed(0, 2, 2, 0));
        due(-5, x.listed(0, 3, 0, 0));
        due(-5, x.listed(0, Integer.MAX_VALUE, 0, 0));
        due(-5, x.listed(0, 2, Integer.MAX_VALUE, 0));
        due(0, x.listed(0, 0, 0, -1));
        due(-1, x.listed(0, 0, 0, 1));
        due(NONE, x.listed(0, -1, -1, 0));
        due(NONE, x.listed(0, -1, 0, 2));
        due(NONE, x.listed(0, -1, 0, -2));
        due(BAD, x.listed(0, -1, 0, 0));
        for (int p : NO_PIECES) due(NONE, x.listed(p, -1, 0, 0));
        x.side(1, 5);
        due(STATE, x.listed(1, 0, 0, 4));
        due(BAD, x.listed(1, -1, 0, 4));
        due(NONE, x.listed(1, 0, 0, 5));
        x.side(2, 1);
        x.cell(2, 0, 0);
        x.weight(0, 0, 4);
        due(4, x.listed(2, 1, 0, -1));
        due(0, x.listed(2, 1, 0, 0));
        due(-5, x.listed(2, 1, 1, 0));
        lay(x, 2, 6, 0, 2);
        int[][] leaning = {{2, 2, -1, 1}, {-5, -5, -5, -5}};
        for (int at = 0; at < 2; at++) for (int i = -1; i < 3; i++) due(leaning[at][i + 1], x.listed(2, 2, at, i));
        listedOfFour(x);
    }

    private static void listedOfFour(RookWords x) {
        x.steps(1, 4, 4444);
        for (int i = 0; i < 6; i++) for (int j = 0; j < 6; j++) x.weight(i, j, 9);
        due(36, x.listed(1, 4, 23, -1));
        due(-5, x.listed(1, 4, 24, -1));
        due(18, x.listed(1, 2, 71, -1));
        int[] last = {-1, -1, 3, 2};
        for (int i = 0; i < 4; i++) due(last[i], x.listed(1, 2, 71, i));
        due(-5, x.listed(1, 2, 72, -1));
        due(27, x.listed(1, 3, 95, -1));
        due(-5, x.listed(1, 3, 96, -1));
    }

    private static void odds() {
        begin(35);
        RookWords x = new RookWords();
        lay(x, 0, 1, 2, 4);
        due(1, x.odds(0, 0));
        due(3, x.odds(0, 1));
        due(1, x.odds(1, 0));
        due(1, x.odds(1, 1));
        x.other(1);
        due(0, x.odds(1, 0));
        due(1, x.odds(1, 1));
        lay(x, 2, 1, 2, 4, 8, 16, 32);
        due(53, x.odds(2, 0));
        due(144, x.odds(2, 1));
        due(NO, x.odds(0, 2));
        due(NO, x.odds(0, -1));
        for (int p : NO_PIECES) due(NO, x.odds(p, 0));
    }

    private static void mean() {
        begin(36);
        RookWords x = new RookWords();
        due(0, x.mean(0, 0));
        due(1, x.mean(0, 1));
        lay(x, 0, 1, 3, 1, 0);
        due(1, x.mean(0, 0));
        due(1, x.mean(0, 1));
        lay(x, 0, 1, 3, 7, 0, 0, 8);
        due(7, x.mean(0, 0));
        due(6, x.mean(0, 1));
        lay(x, 0, 1, 3, 7, 0, 0, 24);
        due(4, x.mean(0, 0));
        due(3, x.mean(0, 1));
        due(NO, x.mean(0, 2));
        due(NO, x.mean(0, -1));
        for (int p : NO_PIECES) due(NO, x.mean(p, 0));
    }

    /** From seed 1 the draws are, ahead of their modulo, 16838, 5758, 10113, 17515, 31051, 5627. */
    private static void lots() {
        begin(37);
        RookWords x = new RookWords();
        // 16838 mod 3 is 2, 5758 mod 2 is 0, the last one 0: columns 2, 0, 1.
        lay(x, 0, 4, 0, 0);
        due(0, x.lots(0, 1, 1, 0));
        due(1, x.lots(0, 1, 1, 1));
        lay(x, 0, 3, 6, 5);
        due(1, x.lots(0, 1, 1, 0));
        due(0, x.lots(0, 1, 1, 1));
        // The second order begins from 17515 (1 modulo 3), then 31051 (1 modulo 2): columns 1, 2, 0.
        lay(x, 0, 2, 4, 1);
        due(1, x.lots(0, 2, 1, 0));
        due(3, x.lots(0, 2, 1, 1));
        x.other(1);
        due(0, x.lots(1, 40, -5, 0));
        due(120, x.lots(1, 40, Integer.MIN_VALUE, 1));
        due(BAD, x.lots(0, 0, 1, 0));
        due(BAD, x.lots(0, 41, 1, 0));
        due(NONE, x.lots(0, 0, 1, 2));
        due(NONE, x.lots(0, 1, 1, -1));
        for (int p : NO_PIECES) due(NONE, x.lots(p, 0, 1, 0));
    }

    private static void feed() {
        begin(38);
        RookWords x = new RookWords();
        due(BAD, x.feed(-1));
        due(BAD, x.feed(128));
        due(1, x.feed(0));
        due(2, x.feed(127));
        for (int i = 3; i <= 80; i++) due(i, x.feed('U'));
        due(FULL, x.feed('U'));
        due(BAD, x.feed(128));
        due(80, x.told(3));
    }

    private static void read() {
        begin(39);
        RookWords x = with("UD");
        String[] good = {"U", "D2U3", "(UD)3", "(U2(D)2)2", "U0", "((((U))))9", "(U9U3)1", "U9(U9)0D3", "U0(U0)9",
            "U1D(U4)0", "(U6)2", "(D(U)0)9U3"};
        String[] told = {"U", "DDUUU", "UDUDUD", "UUDDUUDD", "", "UUUUUUUUU", "UUUUUUUUUUUU", "UUUUUUUUUDDD", "",
            "UD", "UUUUUUUUUUUU", "DDDDDDDDDUUU"};
        for (int t = 0; t < good.length; t++) {
            due(told[t].length(), readText(x, t % 6, good[t]));
            dueWord(told[t], x, t % 6);
            due(0, x.told(3));
        }
        readDeep(x);
        x.make(0, 1, 1);
        String[] faulty = {"", ")", "2", "(", "()", "U22", "(U", "U)", "(U))", "(((((U)))))", "u", "U D", "(2)",
            "((((U))))((((U)))", "U9U9)", "(U9U9", "(U", "(U)2(", "((U)", "U\0"};
        int[] faults = {0, 0, 0, 1, 1, 2, 2, 1, 3, 4, 0, 1, 1, 17, 4, 5, 2, 5, 4, 1};
        for (int t = 0; t < faulty.length; t++) {
            due(-100 - faults[t], readText(x, 0, faulty[t]));
            due(0, x.told(3));
        }
        String[] full = {"U9U4", "(U7)2", "(U7U6)0", "((U7)2)0", "UUUUUUUUUUUUU", "(UUUUUUUUUUUUU)0", "U9(U4)1",
            "(U9(D9)0D4)0", "((U2)7)0U"};
        for (String text : full) {
            due(FULL, readText(x, 0, text));
            due(0, x.told(3));
        }
        dueWord("UD", x, 0);
        for (int i = 0; i < 80; i++) x.feed("U0".charAt(i % 2));
        for (int p : NO_PIECES) due(NONE, x.read(p));
        due(80, x.told(3));
        due(0, x.read(0));
        for (int i = 0; i < 79; i++) x.feed("U0".charAt(i % 2));
        x.feed('(');
        due(-180, x.read(0));
    }

    private static void readDeep(RookWords x) {
        due(8, readText(x, 0, "(U(U(U(D)2)2)1)1"));
        dueWord("UUUDDUDD", x, 0);
        due(12, readText(x, 0, "U9U3(U9U3(U9U3(U9U3(U9U3)0)0)0)0"));
        dueWord("UUUUUUUUUUUU", x, 0);
        due(FULL, readText(x, 0, "U9U3(U9U3(U9U3(U9U3(U9U3U9)0)0)0)0"));
        due(FULL, readText(x, 0, "U9U3(U9U3(U9U3(U9U3(U9U3)1)0)0)0"));
        // Bytes of an earlier text don't count any more.
        due(9, readText(x, 0, "U9"));
        due(1, readText(x, 0, "U"));
    }

    private static void write() {
        begin(40);
        RookWords x = with("UUUUUUUUUUUU", "UUUUUUUUUU", "UDUDUDUDUDUD", "UUDUUDDDU", "", "DDDDDDDDDUUU");
        String[] want = {"U9U3", "U9U", "UDUDUDUDUDUD", "U2DU2D3U", "", "D9U3"};
        for (int w = 0; w < 6; w++) dueWritten(want[w], x, w);
        for (int p : NO_PIECES) due(NONE, x.write(p));
        due(4, x.told(4));
        dueWord("UUUUUUUUUUUU", x, 0);
    }

    private static void paper() {
        begin(41);
        RookWords x = with("UUD", "D");
        due(NONE, x.paper(0));
        x.write(0);
        due('U', x.paper(0));
        due('2', x.paper(1));
        due('D', x.paper(2));
        due(NONE, x.paper(3));
        due(NONE, x.paper(-1));
        x.write(1);
        due('D', x.paper(0));
        due(NONE, x.paper(1));
        due(NONE, x.paper(Integer.MAX_VALUE));
    }

    private static void undo() {
        begin(42);
        RookWords x = new RookWords();
        due(STATE, x.undo());
        x.cell(0, 0, 0);
        x.weight(2, 3, 7);
        x.weight(2, 3, 7);
        x.cell(1, 2, 2);
        x.cell(0, 0, 0);
        due(4, x.told(2));
        due(3, x.undo());
        due(1, x.row(0, 0));
        due(2, x.undo());
        due(0, x.row(1, 2));
        due(1, x.undo());
        due(0, x.undo());
        due(0, x.row(0, 0));
        due(STATE, x.undo());
        due(1, x.weight(2, 3, 1));
        for (int w = 2; w <= 9; w++) x.weight(0, 0, w);
        for (int j = 0; j < 3; j++) x.cell(0, 0, j);
        due(10, x.told(2));
        for (int left = 9; left >= 0; left--) due(left, x.undo());
        due(STATE, x.undo());
        due(0, x.row(0, 0));
        due(2, x.weight(0, 0, 2));
        undoOnlyTen();
        undoIsForgotten();
    }

    /** Of twelve CHANGES, all unlike, the first two stay. */
    private static void undoOnlyTen() {
        RookWords x = new RookWords();
        for (int c = 0; c < 12; c++) {
            if (c % 3 == 2) x.weight(c / 2, c / 3, c - 2);
            else x.cell(c / 2, c % 3, (c + c / 4) % 3);
        }
        due(10, x.told(2));
        for (int left = 9; left >= 0; left--) due(left, x.undo());
        due(STATE, x.undo());
        due(2, x.told(1));
        dueRows(x, 0, 1, 2, 0);
        for (int i = 0; i < 6; i++) for (int j = 0; j < 6; j++) due(1, x.weight(i, j, 1));
    }

    private static void undoIsForgotten() {
        RookWords x = with("DU");
        x.image();
        for (int way = 0; way < 7; way++) {
            x.weight(0, 0, way + 2);
            x.cell(1, 0, 0);
            int last = way == 0 ? x.board(0, 0) : way == 1 ? x.steps(0, 2, 12) : way == 2 ? x.other(0)
                : way == 3 ? x.turned(0) : way == 4 ? x.flipped(0) : way == 5 ? x.side(0, 3) : x.restore();
            due(0, last < 0 ? 1 : 0);
            due(STATE, x.undo());
        }
        x.weight(0, 0, 9);
        x.board(0, 6);
        x.steps(0, 7, 0);
        x.other(6);
        x.turned(6);
        x.flipped(6);
        x.side(0, 7);
        x.letter(0, 0);
        x.clear();
        x.image();
        due(1, x.told(2));
        due(0, x.undo());
        RookWords y = new RookWords();
        y.cell(0, 0, 0);
        y.restore();
        due(0, y.undo());
    }

    private static void judge() {
        begin(43);
        RookWords x = new RookWords();
        lay(x, 0, 3, 3, 4);
        due(100, x.judge(0, 0, 0));
        x.tape(0, 1, 6);
        int[] counts = {1, 5, 6, 2};
        for (int k = 0; k < 4; k++) {
            due(k, x.judge(0, 1, 0));
            x.item(0, k + 1, counts[k]);
        }
        due(-5, x.judge(0, 1, 0));
        due(0, x.judge(0, 0, 0));
        due(100, x.judge(0, 6, 0));
        due(100, x.judge(0, Integer.MAX_VALUE, 0));
        due(100, x.judge(0, -1, 0));
        due(100, x.judge(0, Integer.MIN_VALUE, 0));
        x.tape(1, 1, 4);
        x.shift(0, 1, 1, 1, 3);
        due(103, x.judge(1, 1, 0));
        x.shift(0, 1, 1, 0, 4);
        due(-5, x.judge(1, 0, 0));
        x.item(1, 3, 65536 + 2);
        due(-5, x.judge(1, 0, 0));
        x.item(1, 3, -2);
        due(3, x.judge(1, 0, 0));
        for (int sort = 0; sort <= 4; sort++) {
            x.tape(2, sort, 0);
            due(sort == 1 ? 100 : CAST, x.judge(2, -1, 0));
        }
        for (int p : NO_PIECES) {
            due(NONE, x.judge(p, 0, 0));
            due(NONE, x.judge(2, 0, p));
        }
    }

    private static void image() {
        begin(44);
        RookWords x = with("UUD", "D");
        due(4, x.image());
        x.empty(0);
        due(1, x.image());
        put(x, 0, "UUUU");
        due(1, x.restore());
        dueWord("", x, 0);
        dueWord("D", x, 1);
        x.steps(3, 6, 123456);
        for (int k = 0; k < 4; k++) x.see(k == 3 ? 1 : 4, k == 3 ? 2 : 0);
        x.image();
        x.side(3, 2);
        x.see(-1, 0);
        for (int k = 0; k < 4; k++) x.see(3, 9);
        x.restore();
        dueRows(x, 3, 1, 3, 7, 15, 31, 63);
        due(4, x.told(5));
        due(2, x.fits(2, 0));
    }

    private static void restore() {
        begin(45);
        RookWords x = with("UUD", "D");
        due(STATE, x.restore());
        x.add(0, 4);
        lay(x, 0, 3, 1);
        x.weight(1, 2, 8);
        x.see(1, 2);
        x.image();
        x.turn(0);
        x.empty(1);
        x.times(0);
        x.other(0);
        x.side(1, 6);
        x.weight(1, 2, 3);
        x.weight(5, 5, 3);
        x.see(1, 3);
        x.feed('U');
        x.write(0);
        x.tape(0, 3, 2);
        for (int again = 0; again < 2; again++) {
            due(4, x.restore());
            dueWord("UUD", x, 0);
            dueWord("D", x, 1);
            due(4, x.number(2, 1));
            due(1, x.told(6));
            dueRows(x, 0, 3, 1);
            due(3, x.of(1, 0));
            due(8, x.weight(1, 2, 8));
            due(1, x.weight(5, 5, 1));
            due(1, x.told(5));
            due(2, x.fits(2, 0));
            due(0, x.told(2));
            due(1, x.told(3));
            due(3, x.told(4));
            due(0, x.peek(0, 1));
            put(x, 0, "D");
            x.cell(0, 1, 1);
            x.clear();
            x.see(-1, 0);
            x.weight(5, 5, 9);
        }
    }

    private static void told() {
        begin(46);
        RookWords x = with("UUD", "DDUU");
        x.cell(0, 0, 0);
        x.cell(5, 0, 0);
        x.cell(5, 0, 1);
        x.weight(0, 0, 0);
        x.feed('U');
        x.feed('U');
        x.write(1);
        x.see(0, 0);
        x.add(0, 1);
        x.add(1, 1);
        int[] want = {7, 3, 4, 2, 4, 1, 4};
        for (int what = 0; what < 7; what++) due(want[what], x.told(what));
        due(BAD, x.told(-1));
        due(BAD, x.told(7));
    }

    private static void tape() {
        begin(47);
        RookWords x = new RookWords();
        for (int sort = 0; sort <= 4; sort++) {
            due(1, x.tape(0, sort, 60));
            due(0, x.peek(0, 59));
            due(NO, x.peek(0, 60));
            due(1, x.item(0, 59, 1));
            due(1, x.tape(0, sort, 60));
            due(0, x.peek(0, 59));
        }
        due(1, x.tape(0, 0, 0));
        due(NO, x.peek(0, 0));
        due(PLACE, x.item(0, 0, 0));
        due(1, x.tape(0, 0, 1));
        due(BAD, x.tape(0, 0, 61));
        due(BAD, x.tape(0, 5, -1));
        due(BAD, x.tape(0, -2, 1));
        due(SIZE, x.tape(0, 0, -1));
        due(SIZE, x.tape(0, 4, Integer.MIN_VALUE));
        for (int p : NO_PIECES) due(NONE, x.tape(p, 5, -1));
        due(0, x.peek(0, 0));
        due(1, x.tape(0, -1, 99));
        due(1, x.tape(0, -1, -99));
        due(NOTHING, x.item(0, 0, 0));
        due(NO, x.peek(0, 0));
    }

    private static void item() {
        begin(48);
        RookWords x = new RookWords();
        long v = 0x123456789abcdef0L;
        long[] want = {(byte) 0xf0, (short) 0xdef0, 0x9abcdef0, v, 1};
        for (int sort = 0; sort <= 4; sort++) {
            x.tape(sort, sort, 3);
            due(1, x.item(sort, 1, v));
            due(want[sort], x.peek(sort, 1));
            due(0, x.peek(sort, 0));
            due(0, x.peek(sort, 2));
            due(PLACE, x.item(sort, 3, v));
            due(PLACE, x.item(sort, -1, v));
        }
        x.item(4, 0, 256);
        due(1, x.peek(4, 0));
        x.item(4, 0, 0);
        due(0, x.peek(4, 0));
        x.item(3, 0, Long.MAX_VALUE);
        due(Long.MAX_VALUE, x.peek(3, 0));
        x.item(0, 0, 127);
        due(127, x.peek(0, 0));
        due(NOTHING, x.item(5, -1, 0));
        for (int p : NO_PIECES) due(NONE, x.item(p, 0, 0));
    }

    private static void peek() {
        begin(49);
        RookWords x = new RookWords();
        due(NO, x.peek(0, 0));
        x.tape(0, 2, 2);
        x.item(0, 1, -9);
        due(-9, x.peek(0, 1));
        due(NO, x.peek(0, 2));
        due(NO, x.peek(0, -1));
        x.tape(0, -1, 2);
        due(NO, x.peek(0, 1));
        for (int p : NO_PIECES) due(NO, x.peek(p, 0));
    }

    private static void shift() {
        begin(50);
        RookWords x = new RookWords();
        x.tape(0, 2, 5);
        x.tape(1, 2, 3);
        x.tape(2, 3, 3);
        for (int i = 0; i < 5; i++) x.item(0, i, i + 1);
        due(3, x.shift(0, 0, 0, 1, 3));
        long[] up = {1, 1, 2, 3, 5};
        for (int i = 0; i < 5; i++) due(up[i], x.peek(0, i));
        due(4, x.shift(0, 1, 0, 0, 4));
        long[] down = {1, 2, 3, 5, 5};
        for (int i = 0; i < 5; i++) due(down[i], x.peek(0, i));
        due(2, x.shift(0, 3, 1, 1, 2));
        due(0, x.peek(1, 0));
        due(5, x.peek(1, 1));
        due(5, x.peek(1, 2));
        due(0, x.shift(0, 5, 1, 3, 0));
        due(PLACE, x.shift(0, 6, 1, 0, 0));
        due(PLACE, x.shift(0, 0, 1, 4, 0));
        due(PLACE, x.shift(0, 0, 1, 0, 4));
        due(PLACE, x.shift(1, 0, 0, 0, 4));
        due(PLACE, x.shift(0, 4, 0, 0, 2));
        due(PLACE, x.shift(0, 0, 0, 4, 2));
        due(PLACE, x.shift(0, 0, 1, 0, -1));
        due(PLACE, x.shift(0, -1, 1, 0, 1));
        due(PLACE, x.shift(0, 0, 1, -1, 1));
        due(PLACE, x.shift(0, Integer.MAX_VALUE, 1, 0, Integer.MAX_VALUE));
        due(CAST, x.shift(0, -1, 2, 0, 1));
        due(NOTHING, x.shift(3, -1, 0, 0, 1));
        due(NOTHING, x.shift(0, -1, 3, 0, 1));
        for (int p : NO_PIECES) {
            due(NONE, x.shift(p, -1, 3, 0, 1));
            due(NONE, x.shift(3, -1, p, 0, 1));
        }
    }

    public static void main(String[] args) {
        newObject();
        letter();
        empty();
        make();
        join();
        turn();
        word();
        acted();
        order();
        clear();
        add();
        times();
        atTheBrim();
        number();
        side();
        cell();
        board();
        steps();
        other();
        turned();
        flipped();
        row();
        of();
        count();
        hits();
        factored();
        bySteps();
        all();
        like();
        classes();
        see();
        fits();
        weight();
        cheapest();
        listed();
        odds();
        mean();
        lots();
        feed();
        read();
        write();
        paper();
        undo();
        judge();
        image();
        restore();
        told();
        tape();
        item();
        peek();
        shift();
        System.out.println(wrong == 0 ? "PromiseTest: all answers are as due" : "PromiseTest: " + wrong + " are not");
        if (wrong != 0) System.exit(1);
    }
}
