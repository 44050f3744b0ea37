import java.util.Arrays;

/** Keys that play keys: a line of few letters, a cursor in it, and macros that press keys on it. */
public final class MacroKeys {
    public static final int UNKNOWN = -1, OUTSIDE = -2, STATE = -3, FULL = -4, NONE = -9;
    public static final long LOST = Long.MIN_VALUE;

    private static final int NO_FAULT = 0, NULL = 1, CAST = 2, INDEX = 3, SIZE = 4;
    private static final int LESS_FAULT = -10, LESS_FIRST_FAULT = -100;
    private static final int PLAIN = 0, BROAD = 1, EVEN = 2;
    private static final int BACK = 4, ON = 5, TAKE = 6, HOME = 7, FIRST_MACRO = 8;
    private static final int MOST_MACROS = 3, MOST_ON_MACRO = 4, MOST_TIMES = 3;
    private static final int MOST_LETTERS = 5, LETTERS = 4, LAST_KEY = 10;
    private static final int MOST_IN_ROW = 20, MOST_READINGS = 8, MOST_ODDS = 4;
    private static final int SHEETS = 4, MOST_CELLS = 60;
    private static final int BYTES = 0, SHORTS = 1, INTS = 2, NOTHING = -1;

    private final Board board = new Board();
    private final Reader reader = new Reader();
    private final Search search = new Search();
    private final Sheet[] sheets = {new Sheet(), new Sheet(), new Sheet(), new Sheet()};
    private final int[] readMacros = new int[MOST_READINGS];
    private final int[] readLetters = new int[MOST_READINGS];
    private int readings;
    private int line = Line.EMPTY;
    private int pressed;
    private int traced;
    private int latestFault = NO_FAULT;

    public MacroKeys() {
    }

    // ---- 1 macros

    public int macros(int sheet, int lane, int i, int n) {
        latestFault = NO_FAULT;
        Sheet from = sheetOf(sheet);
        if (from == null) {
            return UNKNOWN;
        }
        if (!isLane(lane)) {
            return OUTSIDE;
        }
        int fault = from.faultOf(lane, i, n);
        if (fault != NO_FAULT) {
            return meet(fault);
        }
        int place = reader.firstFault(from, i, n);
        if (place != NONE) {
            return LESS_FIRST_FAULT - place;
        }
        board.become(reader);
        line = Line.EMPTY;
        pressed = 0;
        readings = 0;
        return board.many;
    }

    public int ofMacro(int m, int what) {
        Macro macro = board.macroOf(m);
        if (macro == null) {
            return UNKNOWN;
        }
        switch (what) {
            case 0: return macro.kind;
            case 1: return macro.timing;
            case 2: return macro.often();
            case 3: return macro.count;
            case 4: return board.pressesOf(m);
            default: return OUTSIDE;
        }
    }

    public int key(int m, int i) {
        Macro macro = board.macroOf(m);
        if (macro == null) {
            return UNKNOWN;
        }
        int key = macro.keyAt(i);
        return key == NONE ? UNKNOWN : key;
    }

    public int times(int m, int v) {
        Macro macro = board.macroOf(m);
        if (macro == null) {
            return UNKNOWN;
        }
        if (v < 1 || v > MOST_TIMES) {
            return OUTSIDE;
        }
        int before = macro.timing;
        board.change(m, macro.kind, v);
        return before;
    }

    // ---- 2 the line

    public int press(int key) {
        if (key < 0 || key >= FIRST_MACRO) {
            return OUTSIDE;
        }
        int before = line;
        line = Line.after(before, key);
        pressed++;
        return line == before ? 0 : 1;
    }

    public int play(int m) {
        if (board.macroOf(m) == null) {
            return UNKNOWN;
        }
        int effect = board.effectOf(line, FIRST_MACRO + m);
        line = Board.lineOf(effect);
        pressed++;
        return Board.bumpsOf(effect);
    }

    public int letter(int i) {
        return i < 0 || i >= Line.countOf(line) ? UNKNOWN : Line.letterAt(line, i);
    }

    public int clear() {
        int had = Line.countOf(line);
        line = Line.EMPTY;
        return had;
    }

    public int row(int sheet, int lane, int i, int n, int what) {
        latestFault = NO_FAULT;
        Sheet from = sheetOf(sheet);
        if (from == null) {
            return UNKNOWN;
        }
        if (!isLane(lane) || n < 0 || n > MOST_IN_ROW || !isOfRow(what)) {
            return OUTSIDE;
        }
        int fault = from.faultOf(lane, i, n);
        if (fault != NO_FAULT) {
            return meet(fault);
        }
        if (!from.allWithin(i, n, LAST_KEY)) {
            return OUTSIDE;
        }
        if (!from.allWithin(i, n, board.keysThereAre() - 1)) {
            return UNKNOWN;
        }
        return ofRow(from, i, n, what);
    }

    private static boolean isOfRow(int what) {
        return what >= 0 && what <= 4 || what >= 10 && what < 10 + MOST_LETTERS;
    }

    private int ofRow(Sheet from, int i, int n, int what) {
        int then = line;
        int bumps = 0;
        int first = NONE;
        for (int p = 0; p < n; p++) {
            int key = from.cells[i + p];
            int effect = board.effectOf(then, key);
            int more = Board.bumpsOf(effect);
            if (first == NONE && key < FIRST_MACRO && more > 0) {
                first = p;
            }
            bumps += more;
            then = Board.lineOf(effect);
        }
        switch (what) {
            case 0: return Line.countOf(then);
            case 1: return Line.cursorOf(then);
            case 2: return first;
            case 3: return bumps;
            case 4: return Line.digitsOf(then);
            default: return what - 10 < Line.countOf(then) ? Line.letterAt(then, what - 10) : NONE;
        }
    }

    // ---- 3 what can be come to

    public int fewest(int sheet, int lane, int i, int n, int k) {
        latestFault = NO_FAULT;
        Sheet from = sheetOf(sheet);
        if (from == null) {
            return UNKNOWN;
        }
        if (!isLane(lane) || n < 0 || n > MOST_LETTERS || k < -1 || k > MOST_IN_ROW) {
            return OUTSIDE;
        }
        int fault = from.faultOf(lane, i, n);
        if (fault != NO_FAULT) {
            return meet(fault);
        }
        if (!from.allWithin(i, n, LETTERS - 1)) {
            return OUTSIDE;
        }
        int found = search.find(board, line, 0, lineTold(from, i, n));
        if (found == NONE) {
            return NONE;
        }
        return k == -1 ? search.stepsTo(found) : search.keyTo(found, k);
    }

    private static int lineTold(Sheet from, int i, int n) {
        int letters = 0;
        for (int p = 0; p < n; p++) {
            letters = letters * LETTERS + from.cells[i + p];
        }
        return Line.of(n, 0, letters);
    }

    public int again(int m, int what) {
        if (board.macroOf(m) == null) {
            return UNKNOWN;
        }
        if (what != 0 && what != 1) {
            return OUTSIDE;
        }
        return what == 0 ? search.aheadOfRound(board, line, m) : search.round(board, line, m);
    }

    public int like(int key, int other) {
        if (!board.isKey(key) || !board.isKey(other)) {
            return UNKNOWN;
        }
        int alike = 0;
        for (int each = 0; each < Line.LINES; each++) {
            if (board.lineAfter(each, key) == board.lineAfter(each, other)) {
                alike++;
            }
        }
        return alike;
    }

    public int still(int key) {
        if (!board.isKey(key)) {
            return UNKNOWN;
        }
        int left = 0;
        for (int each = 0; each < Line.LINES; each++) {
            if (board.lineAfter(each, key) == each) {
                left++;
            }
        }
        return left;
    }

    public int come() {
        return search.reachable(board, line, FIRST_MACRO);
    }

    // ---- 4 how long a line was

    public int reading(int m, int letters) {
        if (board.macroOf(m) == null) {
            return UNKNOWN;
        }
        if (letters < 0 || letters > MOST_LETTERS) {
            return OUTSIDE;
        }
        if (readings >= MOST_READINGS) {
            return FULL;
        }
        readMacros[readings] = m;
        readLetters[readings] = letters;
        return readings++;
    }

    public int back(int n) {
        if (n < 0 || n > readings) {
            return OUTSIDE;
        }
        readings -= n;
        return readings;
    }

    public int timings(int m) {
        Macro macro = board.macroOf(m);
        if (macro == null) {
            return UNKNOWN;
        }
        int timing = macro.timing;
        int set = 0;
        for (int v = 1; v <= MOST_TIMES; v++) {
            board.change(m, macro.kind, v);
            set |= readingsAreSo() ? 1 << v : 0;
        }
        board.change(m, macro.kind, timing);
        return set;
    }

    public int kinds(int m) {
        Macro macro = board.macroOf(m);
        if (macro == null) {
            return UNKNOWN;
        }
        int kind = macro.kind;
        int set = 0;
        for (int v = PLAIN; v <= EVEN; v++) {
            board.change(m, v, macro.timing);
            set |= readingsAreSo() ? 1 << v : 0;
        }
        board.change(m, kind, macro.timing);
        return set;
    }

    private boolean readingsAreSo() {
        for (int r = 0; r < readings && r < MOST_READINGS; r++) {
            int left = board.lineAfter(Line.EMPTY, FIRST_MACRO + readMacros[r]);
            if (Line.countOf(left) != readLetters[r]) {
                return false;
            }
        }
        return true;
    }

    public long odds(int n, int which) {
        if (n < 0 || n > MOST_ODDS || which != 0 && which != 1) {
            return LOST;
        }
        int upper = rowsToEmpty(line, n);
        int lower = 1 << 3 * n;
        // All rows are a power of two, so halving both is all that least terms can need.
        while (lower > 1 && upper % 2 == 0) {
            upper /= 2;
            lower /= 2;
        }
        return which == 0 ? upper : lower;
    }

    private static int rowsToEmpty(int from, int n) {
        if (n <= 0) {
            return Line.countOf(from) == 0 ? 1 : 0;
        }
        int rows = 0;
        for (int key = 0; key < FIRST_MACRO; key++) {
            rows += rowsToEmpty(Line.after(from, key), n - 1);
        }
        return rows;
    }

    // ---- 5 sheets, parts

    public int sheet(int k, int lane, int n) {
        latestFault = NO_FAULT;
        Sheet it = sheetOf(k);
        if (it == null) {
            return UNKNOWN;
        }
        if (!isLane(lane) || n > MOST_CELLS) {
            return OUTSIDE;
        }
        if (n < 0) {
            return meet(SIZE);
        }
        it.renew(lane, n);
        return 1;
    }

    public int lose(int k) {
        Sheet it = sheetOf(k);
        if (it == null) {
            return UNKNOWN;
        }
        int had = it.lane == NOTHING ? 0 : 1;
        it.renew(NOTHING, 0);
        return had;
    }

    public int put(int k, int i, int v) {
        latestFault = NO_FAULT;
        Sheet it = sheetOf(k);
        if (it == null) {
            return UNKNOWN;
        }
        int fault = it.faultOf(it.lane, i, 1);
        if (fault != NO_FAULT) {
            return meet(fault);
        }
        it.cells[i] = it.cut(v);
        return 1;
    }

    public long cell(int k, int i, int lane) {
        latestFault = NO_FAULT;
        Sheet it = sheetOf(k);
        if (it == null || !isLane(lane)) {
            return LOST;
        }
        latestFault = it.faultOf(lane, i, 1);
        return latestFault == NO_FAULT ? it.cells[i] : LOST;
    }

    public int copy(int k, int i, int other, int j, int n) {
        latestFault = NO_FAULT;
        Sheet from = sheetOf(k);
        Sheet to = sheetOf(other);
        if (from == null || to == null) {
            return UNKNOWN;
        }
        if (from.lane == NOTHING || to.lane == NOTHING) {
            return meet(NULL);
        }
        if (from.lane != to.lane) {
            return meet(CAST);
        }
        if (!from.hasAll(i, n) || !to.hasAll(j, n)) {
            return meet(INDEX);
        }
        System.arraycopy(from.cells, i, to.cells, j, n);
        return n;
    }

    public int tell(int m) {
        Macro macro = board.macroOf(m);
        if (macro == null) {
            return UNKNOWN;
        }
        switch (macro.kind) {
            case EVEN: return evenTells(macro);
            case BROAD: return broadTells(macro);
            default: return plainTells(macro);
        }
    }

    private int plainTells(Macro macro) {
        leave(1);
        return macro.timing;
    }

    private int broadTells(Macro macro) {
        leave(2);
        return plainTells(macro) + 100;
    }

    private int evenTells(Macro macro) {
        leave(3);
        int broad = broadTells(macro);
        return broad + plainTells(macro);
    }

    public int click(int m) {
        Macro macro = board.macroOf(m);
        if (macro == null) {
            return UNKNOWN;
        }
        if (macro.kind == EVEN) {
            leave(5);
            return 90;
        }
        leave(4);
        return macro.count;
    }

    private void leave(int body) {
        traced = 31 * traced + body;
    }

    public int as(int m, int kind) {
        latestFault = NO_FAULT;
        Macro macro = board.macroOf(m);
        if (macro == null) {
            return UNKNOWN;
        }
        if (kind < PLAIN || kind > EVEN) {
            return OUTSIDE;
        }
        // Kinds are numbered so that each is one of all the kinds below it, too.
        return macro.kind >= kind ? 1 : meet(CAST);
    }

    public int trace() {
        return traced;
    }

    public int fault() {
        return latestFault;
    }

    public int many(int what) {
        switch (what) {
            case 0: return board.many;
            case 1: return Line.countOf(line);
            case 2: return Line.cursorOf(line);
            case 3: return pressed;
            case 4: return readings;
            default: return OUTSIDE;
        }
    }

    private Sheet sheetOf(int k) {
        return k < 0 || k >= SHEETS ? null : sheets[k];
    }

    private static boolean isLane(int lane) {
        return lane >= BYTES && lane <= INTS;
    }

    private int meet(int fault) {
        latestFault = fault;
        return LESS_FAULT - fault;
    }

    /**
     * Lines as numbers 0 .. 7736, so that rows can be kept by line: by how many letters there
     * are, then by the cursor, then by the letters, as the digits of a number to the base 4.
     */
    private static final class Line {
        static final int EMPTY = 0, LINES = 7737;
        /** The first number of the lines of so many letters. */
        private static final int[] FIRST = {0, 1, 9, 57, 313, 1593};

        static boolean isLine(int line) {
            return line >= 0 && line < LINES;
        }

        static int of(int count, int cursor, int letters) {
            if (count < 0 || count > MOST_LETTERS) {
                return EMPTY;
            }
            return FIRST[count] + (cursor << 2 * count) + letters;
        }

        // From the most letters down: most lines are full ones.
        static int countOf(int line) {
            int count = MOST_LETTERS;
            while (count > 0 && line < FIRST[count]) {
                count--;
            }
            return count;
        }

        static int cursorOf(int line) {
            int count = countOf(line);
            return line - FIRST[count] >> 2 * count;
        }

        static int letterAt(int line, int place) {
            int count = countOf(line);
            return line - FIRST[count] >> 2 * (count - 1 - place) & LETTERS - 1;
        }

        static int digitsOf(int line) {
            int count = countOf(line);
            int digits = 0;
            for (int p = 0; p < count; p++) {
                digits = digits * 10 + letterAt(line, p) + 1;
            }
            return digits;
        }

        /** The same line, if a key 0 .. 7 bumps, and only then. */
        static int after(int line, int key) {
            int count = countOf(line);
            int cursor = line - FIRST[count] >> 2 * count;
            int letters = line - FIRST[count] & (1 << 2 * count) - 1;
            boolean bumps = key < BACK ? count == MOST_LETTERS
                    : key == ON ? cursor == count : cursor == 0;
            if (bumps) {
                return line;
            }
            switch (key) {
                case BACK: return of(count, cursor - 1, letters);
                case ON: return of(count, cursor + 1, letters);
                case TAKE: return of(count - 1, cursor - 1, without(letters, count - cursor));
                case HOME: return of(count, 0, letters);
                default: return of(count + 1, cursor + 1, with(letters, count - cursor, key));
            }
        }

        private static int with(int letters, int behind, int letter) {
            int ahead = letters >> 2 * behind;
            return (ahead << 2 | letter) << 2 * behind | letters & (1 << 2 * behind) - 1;
        }

        private static int without(int letters, int behind) {
            int ahead = letters >> 2 * behind;
            return ahead >> 2 << 2 * behind | letters & (1 << 2 * behind) - 1;
        }
    }

    private static final class Macro {
        int kind;
        int timing;
        int count;
        final int[] keys = new int[MOST_ON_MACRO];

        int often() {
            switch (kind) {
                case EVEN: return 2 * timing;
                case BROAD: return timing + 1;
                default: return timing;
            }
        }

        int keyAt(int i) {
            return i < 0 || i >= count || i >= MOST_ON_MACRO ? NONE : keys[i];
        }

        void become(Macro other) {
            kind = other.kind;
            timing = other.timing;
            count = other.count;
            System.arraycopy(other.keys, 0, keys, 0, MOST_ON_MACRO);
        }
    }

    /** Reads a text into macros of its own, so that a text with a fault changes nothing. */
    private static final class Reader {
        private static final int TO_BEGIN = 0, TO_MARK = 1, TO_KIND = 2, TO_TIMES = 3, TO_KEYS = 4;

        final Macro[] macros = {new Macro(), new Macro(), new Macro()};
        int many;
        private Macro latest = macros[0];
        private int stage;

        int firstFault(Sheet from, int i, int n) {
            stage = TO_BEGIN;
            many = 0;
            for (int p = 0; p < n; p++) {
                if (!goesOn(from.cells[i + p])) {
                    return p;
                }
            }
            return hasKeys() ? NONE : n;
        }

        private boolean goesOn(int code) {
            switch (stage) {
                case TO_BEGIN: return begins(code);
                case TO_MARK: return marks(code);
                case TO_KIND: return tellsKind(code);
                case TO_TIMES: return tellsTimes(code);
                default: return addsKey(code) || hasKeys() && marks(code);
            }
        }

        private boolean hasKeys() {
            return stage == TO_KEYS && latest.count > 0;
        }

        private boolean begins(int code) {
            stage = TO_MARK;
            return code == 'k';
        }

        private boolean marks(int code) {
            if (code != ';' || many >= MOST_MACROS) {
                return false;
            }
            latest = macros[many];
            latest.count = 0;
            many++;
            stage = TO_KIND;
            return true;
        }

        private boolean tellsKind(int code) {
            latest.kind = code == 'p' ? PLAIN : code == 'b' ? BROAD : EVEN;
            stage = TO_TIMES;
            return code == 'p' || code == 'b' || code == 'e';
        }

        private boolean tellsTimes(int code) {
            latest.timing = code - '0';
            stage = TO_KEYS;
            return code >= '1' && code <= '0' + MOST_TIMES;
        }

        private boolean addsKey(int code) {
            int key = keyOf(code);
            if (key == NONE || latest.count >= MOST_ON_MACRO) {
                return false;
            }
            latest.keys[latest.count] = key;
            latest.count++;
            return true;
        }

        private int keyOf(int code) {
            switch (code) {
                case '<': return BACK;
                case '>': return ON;
                case 'x': return TAKE;
                case 'h': return HOME;
                default: break;
            }
            if (code >= 'a' && code < 'a' + LETTERS) {
                return code - 'a';
            }
            boolean aheadOfIt = code >= '0' && code < '0' + many - 1;
            return aheadOfIt ? FIRST_MACRO + code - '0' : NONE;
        }
    }

    /**
     * The macros there are, and what they do to lines. An effect is the line behind it and, in
     * the bits above, how many keys bump. Effects are kept once they are known: a macro of
     * macros presses thousands of keys, and some calls play it on all lines.
     */
    private static final class Board {
        private static final int LINE_BITS = 13;

        int many;
        private final Macro[] macros = {new Macro(), new Macro(), new Macro()};
        /** By macro and line, 1 above the effect; 0: it is not known. */
        private final int[] effects = new int[MOST_MACROS * Line.LINES];

        void become(Reader reader) {
            many = reader.many;
            for (int m = 0; m < MOST_MACROS; m++) {
                macros[m].become(reader.macros[m]);
            }
            forget(0);
        }

        Macro macroOf(int m) {
            return m < 0 || m >= many || m >= MOST_MACROS ? null : macros[m];
        }

        int keysThereAre() {
            return FIRST_MACRO + many;
        }

        boolean isKey(int key) {
            return key >= 0 && key < keysThereAre();
        }

        void change(int m, int kind, int timing) {
            Macro macro = macroOf(m);
            if (macro == null || macro.kind == kind && macro.timing == timing) {
                return;
            }
            macro.kind = kind;
            macro.timing = timing;
            forget(m);
        }

        // Only the macros behind one can play it, so what those ahead of it do stays known.
        private void forget(int m) {
            if (m >= 0 && m < MOST_MACROS) {
                Arrays.fill(effects, m * Line.LINES, MOST_MACROS * Line.LINES, 0);
            }
        }

        private int pressesOf(int m) {
            Macro macro = macroOf(m);
            if (macro == null) {
                return 0;
            }
            int once = 0;
            for (int j = 0; j < macro.count; j++) {
                int key = macro.keyAt(j);
                if (key < FIRST_MACRO) {
                    once++;
                } else if (key - FIRST_MACRO < m) {
                    once += pressesOf(key - FIRST_MACRO);
                }
            }
            return once * macro.often();
        }

        static int lineOf(int effect) {
            return effect & (1 << LINE_BITS) - 1;
        }

        static int bumpsOf(int effect) {
            return effect >> LINE_BITS;
        }

        int lineAfter(int line, int key) {
            return lineOf(effectOf(line, key));
        }

        private int effectOf(int line, int key) {
            if (key < FIRST_MACRO) {
                int next = Line.after(line, key);
                return next == line ? 1 << LINE_BITS | line : next;
            }
            int m = key - FIRST_MACRO;
            Macro macro = macroOf(m);
            if (macro == null || !Line.isLine(line)) {
                return line;
            }
            int slot = m * Line.LINES + line;
            if (effects[slot] == 0) {
                effects[slot] = 1 + played(line, macro, m);
            }
            return effects[slot] - 1;
        }

        private int played(int line, Macro macro, int m) {
            int then = line;
            int bumps = 0;
            int often = macro.often();
            for (int r = 0; r < often; r++) {
                for (int j = 0; j < macro.count; j++) {
                    int key = macro.keyAt(j);
                    // A macro plays only those ahead of it: by this the recursion ends.
                    if (key < FIRST_MACRO + m) {
                        int effect = effectOf(then, key);
                        bumps += bumpsOf(effect);
                        then = lineOf(effect);
                    }
                }
            }
            return bumps << LINE_BITS | then;
        }
    }

    /**
     * Goes from line to line. Its rows, as long as there are lines, are made with the object and
     * used again by every call: made by a call, they would count once for each.
     */
    private static final class Search {
        private static final int START = -1, KEY_BITS = 4;

        private final int[] queue = new int[Line.LINES];
        /** By line: 0, it was not come to; START; or 1 above the line and the key it came by. */
        private final int[] cameBy = new int[Line.LINES];
        private int reached;

        int reachable(Board board, int start, int firstKey) {
            find(board, start, firstKey, NONE);
            return reached;
        }

        /**
         * The line with the letters of goal (whose cursor is ahead of all), by keys from
         * firstKey on. Lines are queued in the order of the first of their fewest rows of keys,
         * so the first that has the letters is come to by the first of all fewest rows.
         */
        int find(Board board, int start, int firstKey, int goal) {
            Arrays.fill(cameBy, 0);
            reached = 0;
            queueUp(start, START);
            if (hasLetters(start, goal)) {
                return start;
            }
            for (int head = 0; head < reached && head < Line.LINES; head++) {
                int from = queue[head];
                for (int key = firstKey; key < board.keysThereAre(); key++) {
                    int next = board.lineAfter(from, key);
                    if (!Line.isLine(next) || cameBy[next] != 0) {
                        continue;
                    }
                    queueUp(next, 1 + (from << KEY_BITS | key));
                    if (hasLetters(next, goal)) {
                        return next;
                    }
                }
            }
            return NONE;
        }

        private void queueUp(int line, int by) {
            if (reached < Line.LINES && Line.isLine(line)) {
                cameBy[line] = by;
                queue[reached] = line;
                reached++;
            }
        }

        private static boolean hasLetters(int line, int goal) {
            return Line.after(line, HOME) == goal;
        }

        int stepsTo(int found) {
            int steps = 0;
            int at = found;
            while (Line.isLine(at) && cameBy[at] > 0 && steps < Line.LINES) {
                at = cameBy[at] - 1 >> KEY_BITS;
                steps++;
            }
            return steps;
        }

        int keyTo(int found, int place) {
            int at = found;
            for (int p = stepsTo(found) - 1; p >= 0 && Line.isLine(at); p--) {
                int by = cameBy[at] - 1;
                if (p == place) {
                    return by & (1 << KEY_BITS) - 1;
                }
                at = by >> KEY_BITS;
            }
            return NONE;
        }

        int aheadOfRound(Board board, int start, int m) {
            return playsTo(playOn(board, start, m));
        }

        int round(Board board, int start, int m) {
            int comesAgain = playOn(board, start, m);
            return reached - playsTo(comesAgain);
        }

        private int playsTo(int line) {
            return Line.isLine(line) ? cameBy[line] - 1 : 0;
        }

        /** Plays until a line comes again: that line; by line, 1 above how many plays came to it. */
        private int playOn(Board board, int start, int m) {
            Arrays.fill(cameBy, 0);
            reached = 0;
            int at = start;
            while (Line.isLine(at) && cameBy[at] == 0 && reached < Line.LINES) {
                reached++;
                cameBy[at] = reached;
                at = board.lineAfter(at, FIRST_MACRO + m);
            }
            return at;
        }
    }

    /** A row of numbers of a lane; its cells are made once and used again for every row. */
    private static final class Sheet {
        int lane = NOTHING;
        int count;
        final int[] cells = new int[MOST_CELLS];

        void renew(int newLane, int n) {
            lane = newLane;
            count = n;
            Arrays.fill(cells, 0);
        }

        /** The first fault of n cells from i on, taken as a row of a lane. */
        int faultOf(int asLane, int i, int n) {
            if (lane == NOTHING) {
                return NULL;
            }
            if (lane != asLane) {
                return CAST;
            }
            if (n < 0) {
                return SIZE;
            }
            return hasAll(i, n) ? NO_FAULT : INDEX;
        }

        // By less, not by more: i and n together may be more than an int holds.
        boolean hasAll(int i, int n) {
            return n >= 0 && i >= 0 && n <= count && i <= count - n;
        }

        boolean allWithin(int i, int n, int most) {
            for (int p = 0; p < n; p++) {
                int v = cells[i + p];
                if (v < 0 || v > most) {
                    return false;
                }
            }
            return true;
        }

        int cut(int v) {
            switch (lane) {
                case BYTES: return (byte) v;
                case SHORTS: return (short) v;
                default: return v;
            }
        }
    }
}
