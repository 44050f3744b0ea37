import java.util.List;
import java.util.function.ToLongFunction;

/** SHEETS, TELLING and CLICKED, and what is counted: the terms of part 5, promises 21 to 31. */
final class EdgesOfSheets {
    private static final int[] CUTS = {0, 1, -1, 127, 128, -128, -129, 255, 256, 32767, 32768, -32768, -32769, 65535,
        65536, Due.MAX, Due.MIN};

    private EdgesOfSheets() {
    }

    private static void cells(Due due, MacroKeys x, int sheet, int lane, int... want) {
        for (int i = 0; i < want.length; i++) {
            due.is("cell " + i + " of " + sheet, x.cell(sheet, i, lane), want[i]);
        }
        due.loses(x, "a cell more", x.cell(sheet, want.length, lane), 3);
    }

    private static int cut(int v, int lane) {
        int bits = lane == 0 ? 24 : lane == 1 ? 16 : 0;
        return v << bits >> bits;
    }

    @Says(in = "Terms", words = "5 SHEETS 0 .. 3 have nothing (at first)")
    static void nothingAtFirst(Due due) {
        for (int k = 0; k < 4; k++) {
            MacroKeys x = new MacroKeys();
            due.fails(x, "put", x.put(k, 0, 0), 1);
            due.loses(x, "cell", x.cell(k, 0, 0), 1);
            due.is("lose", x.lose(k), 0);
        }
        due.is("no sheet 4", new MacroKeys().lose(4), -1);
        due.is("no sheet -1", new MacroKeys().lose(-1), -1);
    }

    @Says(in = "Terms", words = "or a row of 0 .. 60 numbers")
    static void noneToSixty(Due due) {
        for (int lane = 0; lane < 3; lane++) {
            for (int n : new int[] {0, 1, 59, 60}) {
                MacroKeys x = new MacroKeys();
                due.is("a row of " + n, x.sheet(lane, lane, n), 1);
                due.fails(x, "beyond", x.put(lane, n, 5), 3);
                due.is("the last", n == 0 ? 1 : x.put(lane, n - 1, 5), 1);
            }
            due.is("a row of 61", new MacroKeys().sheet(lane, lane, 61), -2);
        }
    }

    @Says(in = "Terms", words = "(0 at first) of a LANE: 0 bytes, 1 shorts, 2 ints")
    static void zeroAtFirst(Due due) {
        MacroKeys x = new MacroKeys();
        for (int lane = 0; lane < 3; lane++) {
            x.sheet(lane, lane, 60);
            for (int i = 0; i < 60; i += i < 58 ? 29 : 1) {
                due.is("cell " + i, x.cell(lane, i, lane), 0);
                x.put(lane, i, -1);
            }
            x.sheet(lane, lane, 60);
            for (int i = 0; i < 60; i += i < 58 ? 29 : 1) {
                due.is("cell " + i + " of a new row", x.cell(lane, i, lane), 0);
            }
            x.put(lane, 0, Due.MIN);
            int[] least = {0, 0, Due.MIN};
            due.is("the least int, in lane " + lane, x.cell(lane, 0, lane), least[lane]);
            x.put(lane, 0, -32768);
            int[] short16 = {0, -32768, -32768};
            due.is("the least short, in lane " + lane, x.cell(lane, 0, lane), short16[lane]);
        }
    }

    @Says(in = "Terms", words = "what comes to a cell of it is cut to its LANE")
    static void cutToLane(Due due) {
        for (int lane = 0; lane < 3; lane++) {
            MacroKeys x = new MacroKeys();
            x.sheet(0, lane, 1);
            for (int v : CUTS) {
                x.put(0, 0, v);
                due.is(v + " in lane " + lane, x.cell(0, 0, lane), cut(v, lane));
            }
        }
        MacroKeys x = new MacroKeys();
        x.sheet(0, 0, 1);
        x.put(0, 0, 128);
        due.is("128 wraps", x.cell(0, 0, 0), -128);
        x.put(0, 0, 256 + 3);
        due.is("a row of it: key 3", x.row(0, 0, 0, 1, 4), 4);
    }

    @Says(in = "Terms", words = "TELLING of MACROS by bodies that leave their number in TRACE")
    static void bodiesLeaveNumbers(Due due) {
        traced(due, "k;p1a", x -> x.tell(0), 1);
        traced(due, "k;b1a", x -> x.tell(0), 2, 1);
        traced(due, "k;e1a", x -> x.tell(0), 3, 2, 1, 1);
    }

    private static void traced(Due due, String text, ToLongFunction<MacroKeys> call, int... bodies) {
        MacroKeys x = Due.with(text);
        int want = 0;
        for (int body : bodies) {
            want = 31 * want + body;
        }
        call.applyAsLong(x);
        due.is("the trace of " + text, x.trace(), want);
    }

    @Says(in = "Terms", words = "(an int that wraps, 0 at first, becomes 31 times it and the number)")
    static void traceWraps(Due due) {
        MacroKeys x = Due.with("k;p1abcd");
        due.is("at first", x.trace(), 0);
        int want = 0;
        boolean below = false;
        for (int t = 0; t < 40; t++) {
            x.tell(0);
            want = 31 * want + 1;
            below |= want < 0;
            due.is("told so often: " + (t + 1), x.trace(), want);
        }
        due.is("it was below 0", below ? 1 : 0, 1);
        x.click(0);
        due.is("clicked", x.trace(), 31 * want + 4);
    }

    @Says(in = "Terms", words = "as they begin")
    static void asTheyBegin(Due due) {
        MacroKeys x = Due.with("k;e1a");
        x.tell(0);
        due.is("3 is left ahead of 2, and 2 of 1", x.trace(), ((3 * 31 + 2) * 31 + 1) * 31 + 1);
        x = Due.with("k;b1a");
        x.tell(0);
        due.is("2 is left ahead of 1", x.trace(), 2 * 31 + 1);
    }

    @Says(in = "Terms", words = "PLAIN (1): TIMES")
    static void plainTells(Due due) {
        tells(due, "k;p1a", 1, 2, 3);
    }

    @Says(in = "Terms", words = "BROAD (2): what PLAIN's gives, and 100")
    static void broadTells(Due due) {
        tells(due, "k;b1a", 101, 102, 103);
    }

    @Says(in = "Terms", words = "EVEN (3): what BROAD's gives, and what PLAIN's gives")
    static void evenTells(Due due) {
        tells(due, "k;e1a", 102, 104, 106);
    }

    private static void tells(Due due, String text, int... want) {
        for (int v = 1; v <= 3; v++) {
            MacroKeys x = Due.with(text);
            x.times(0, v);
            due.is(text + ", " + v + " times", x.tell(0), want[v - 1]);
        }
    }

    @Says(in = "Terms", words = "(BROAD's left out)")
    static void broadLeftOut(Due due) {
        MacroKeys x = Due.with("k;e3a");
        due.is("100 comes once, not twice", x.tell(0), 106);
        due.is("2 is left once, not twice", x.trace(), ((3 * 31 + 2) * 31 + 1) * 31 + 1);
    }

    @Says(in = "Terms", words = "CLICKED by a lent body (4): how many KEYS are on it")
    static void lentBody(Due due) {
        for (int n = 1; n <= 4; n++) {
            for (String kind : new String[] {"p", "b"}) {
                MacroKeys x = Due.with("k;" + kind + "3" + "xaha".substring(0, n));
                due.is(kind + " of " + n + " keys", x.click(0), n);
                due.is("its body", x.trace(), 4);
            }
        }
    }

    @Says(in = "Terms", words = "EVEN ones have their own (5): 90")
    static void ownBody(Due due) {
        for (int n = 1; n <= 4; n++) {
            MacroKeys x = Due.with("k;e3" + "xaha".substring(0, n));
            due.is("even, of " + n + " keys", x.click(0), 90);
            due.is("its body", x.trace(), 5);
        }
    }

    // ---- promise 21

    @Says(in = "21", words = "A SHEET gets a new row: 1")
    static void sheetAnew(Due due) {
        MacroKeys x = new MacroKeys();
        for (int k = 0; k < 4; k++) {
            due.is("sheet " + k, x.sheet(k, k % 3, 2), 1);
            x.put(k, 1, 7);
        }
        due.is("sheet 1 anew", x.sheet(1, 2, 3), 1);
        cells(due, x, 1, 2, 0, 0, 0);
        due.is("sheet 1 anew, the same", x.sheet(1, 2, 3), 1);
        cells(due, x, 0, 0, 0, 7);
        cells(due, x, 2, 2, 0, 7);
        cells(due, x, 3, 0, 0, 7);
        due.is("of none", x.sheet(1, 0, 0), 1);
        cells(due, x, 1, 0);
    }

    @Says(in = "21", words = "UNKNOWN")
    static void sheetUnknown(Due due) {
        MacroKeys x = new MacroKeys();
        for (int k : Due.beyond(0, 3)) {
            due.is("sheet " + k, x.sheet(k, 0, 1), -1);
            due.is("fault()", x.fault(), 0);
        }
    }

    @Says(in = "21", words = "OUTSIDE: lane")
    static void sheetNoLane(Due due) {
        MacroKeys x = new MacroKeys();
        Due.row(x, 0, 1, 5);
        for (int lane : Due.beyond(0, 2)) {
            due.is("lane " + lane, x.sheet(0, lane, 3), -2);
            due.is("fault()", x.fault(), 0);
        }
        cells(due, x, 0, 1, 5);
    }

    @Says(in = "21", words = "n above 60")
    static void sheetTooLong(Due due) {
        MacroKeys x = new MacroKeys();
        Due.row(x, 0, 1, 5);
        due.is("61", x.sheet(0, 0, 61), -2);
        due.is("most", x.sheet(0, 0, Due.MAX), -2);
        due.is("fault()", x.fault(), 0);
        cells(due, x, 0, 1, 5);
        due.is("60", x.sheet(0, 0, 60), 1);
    }

    @Says(in = "21", words = "SIZE")
    static void sheetSize(Due due) {
        MacroKeys x = new MacroKeys();
        Due.row(x, 0, 1, 5);
        due.fails(x, "-1", x.sheet(0, 0, -1), 4);
        due.fails(x, "least", x.sheet(0, 0, Due.MIN), 4);
        cells(due, x, 0, 1, 5);
        due.is("0", x.sheet(0, 0, 0), 1);
    }

    // ---- promises 22 and 23

    @Says(in = "22", words = "A SHEET has nothing: 1")
    static void loseSomething(Due due) {
        for (int k = 0; k < 4; k++) {
            MacroKeys x = new MacroKeys();
            Due.row(x, k, 1, 5, 6);
            due.is("lose " + k, x.lose(k), 1);
            due.fails(x, "it has nothing", x.put(k, 0, 0), 1);
            x.sheet(k, 1, 2);
            cells(due, x, k, 1, 0, 0);
            x.sheet(k, 1, 0);
            due.is("a row of none is something", x.lose(k), 1);
        }
    }

    @Says(in = "22", words = "0: it had nothing")
    static void loseNothing(Due due) {
        MacroKeys x = new MacroKeys();
        due.is("at first", x.lose(0), 0);
        x.sheet(0, 0, 1);
        x.lose(0);
        due.is("lost before", x.lose(0), 0);
    }

    @Says(in = "22", words = "UNKNOWN")
    static void loseUnknown(Due due) {
        MacroKeys x = new MacroKeys();
        for (int k : Due.beyond(0, 3)) {
            due.is("lose(" + k + ")", x.lose(k), -1);
        }
    }

    @Says(in = "23", words = "Cell i of a SHEET becomes v: 1")
    static void put(Due due) {
        MacroKeys x = new MacroKeys();
        Due.row(x, 0, 2, 1, 2, 3);
        Due.row(x, 1, 2, 1, 2, 3);
        due.is("the first", x.put(0, 0, Due.MAX), 1);
        due.is("the last", x.put(0, 2, Due.MIN), 1);
        cells(due, x, 0, 2, Due.MAX, 2, Due.MIN);
        cells(due, x, 1, 2, 1, 2, 3);
    }

    @Says(in = "23", words = "UNKNOWN")
    static void putUnknown(Due due) {
        MacroKeys x = new MacroKeys();
        for (int k : Due.beyond(0, 3)) {
            due.is("put(" + k + ", 0, 1)", x.put(k, 0, 1), -1);
            due.is("fault()", x.fault(), 0);
        }
    }

    @Says(in = "23", words = "NULL")
    static void putNull(Due due) {
        MacroKeys x = new MacroKeys();
        due.fails(x, "nothing at first", x.put(3, 0, 1), 1);
        x.sheet(3, 0, 1);
        x.lose(3);
        due.fails(x, "nothing any more", x.put(3, 0, 1), 1);
    }

    @Says(in = "23", words = "INDEX")
    static void putIndex(Due due) {
        MacroKeys x = new MacroKeys();
        for (int n : new int[] {0, 1, 3, 60}) {
            x.sheet(0, 1, n);
            for (int i : Due.beyond(0, n - 1)) {
                due.fails(x, "cell " + i + " of " + n, x.put(0, i, 5), 3);
            }
        }
        x.sheet(0, 1, 2);
        due.fails(x, "a longer row was there", x.put(0, 2, 5), 3);
        cells(due, x, 0, 1, 0, 0);
    }

    // ---- promise 24

    @Says(in = "24", words = "Cell i of what a SHEET has, taken as a row of a LANE")
    static void cell(Due due) {
        MacroKeys x = new MacroKeys();
        for (int k = 0; k < 3; k++) {
            Due.row(x, k, k, 5, -6, 127);
            cells(due, x, k, k, 5, -6, 127);
        }
        Due.row(x, 3, 2, Due.MIN, Due.MAX);
        cells(due, x, 3, 2, Due.MIN, Due.MAX);
    }

    @Says(in = "24", words = "LOST: UNKNOWN")
    static void cellUnknown(Due due) {
        MacroKeys x = new MacroKeys();
        for (int k : Due.beyond(0, 3)) {
            due.loses(x, "sheet " + k, x.cell(k, 0, 0), 0);
        }
    }

    @Says(in = "24", words = "OUTSIDE: lane")
    static void cellNoLane(Due due) {
        MacroKeys x = new MacroKeys();
        Due.row(x, 0, 1, 5);
        for (int lane : Due.beyond(0, 2)) {
            due.loses(x, "lane " + lane, x.cell(0, 0, lane), 0);
            due.loses(x, "lane " + lane + ", of nothing", x.cell(1, 0, lane), 0);
        }
    }

    @Says(in = "24", words = "FAULTS CAST (nothing is no CAST)")
    static void cellCast(Due due) {
        MacroKeys x = new MacroKeys();
        for (int k = 0; k < 3; k++) {
            Due.row(x, k, k, 5);
            for (int lane = 0; lane < 3; lane++) {
                due.is("sheet " + k + " as " + lane, x.cell(k, 0, lane), k == lane ? 5 : MacroKeys.LOST);
                due.is("fault()", x.fault(), k == lane ? 0 : 2);
            }
            due.loses(x, "nothing as " + k, x.cell(3, 0, k), 1);
        }
    }

    @Says(in = "24", words = ", NULL")
    static void cellNull(Due due) {
        MacroKeys x = new MacroKeys();
        due.loses(x, "nothing at first", x.cell(0, 0, 0), 1);
        Due.row(x, 0, 1, 5);
        x.lose(0);
        due.loses(x, "nothing any more, as what it was", x.cell(0, 0, 1), 1);
        due.loses(x, "nothing any more, as another", x.cell(0, 0, 0), 1);
    }

    @Says(in = "24", words = ", INDEX")
    static void cellIndex(Due due) {
        MacroKeys x = new MacroKeys();
        for (int n : new int[] {0, 1, 3, 60}) {
            x.sheet(0, 1, n);
            for (int i : Due.beyond(0, n - 1)) {
                due.loses(x, "cell " + i + " of " + n, x.cell(0, i, 1), 3);
            }
        }
    }

    // ---- promise 25

    private static MacroKeys rows() {
        MacroKeys x = new MacroKeys();
        Due.row(x, 0, 2, 1, 2, 3, 4, 5);
        Due.row(x, 1, 2, 7, 8, 9);
        Due.row(x, 2, 1, 6, 6, 6);
        return x;
    }

    @Says(in = "25", words = "n cells of a SHEET from i on go to another one")
    static void copyToAnother(Due due) {
        MacroKeys x = rows();
        due.is("two", x.copy(0, 1, 1, 0, 2), 2);
        cells(due, x, 1, 2, 2, 3, 9);
        cells(due, x, 0, 2, 1, 2, 3, 4, 5);
        due.is("the last", x.copy(0, 4, 1, 2, 1), 1);
        cells(due, x, 1, 2, 2, 3, 5);
        due.is("all", x.copy(1, 0, 0, 2, 3), 3);
        cells(due, x, 0, 2, 1, 2, 2, 3, 5);
    }

    @Says(in = "25", words = "(perhaps the same)")
    static void copyToTheSame(Due due) {
        MacroKeys x = rows();
        due.is("two", x.copy(0, 0, 0, 3, 2), 2);
        cells(due, x, 0, 2, 1, 2, 3, 1, 2);
        due.is("all, where they are", x.copy(0, 0, 0, 0, 5), 5);
        cells(due, x, 0, 2, 1, 2, 3, 1, 2);
    }

    @Says(in = "25", words = "from j on, as they were: n")
    static void copyAsTheyWere(Due due) {
        MacroKeys x = rows();
        due.is("on by one", x.copy(0, 0, 0, 1, 4), 4);
        cells(due, x, 0, 2, 1, 1, 2, 3, 4);
        x = rows();
        due.is("back by one", x.copy(0, 1, 0, 0, 4), 4);
        cells(due, x, 0, 2, 2, 3, 4, 5, 5);
        due.is("none", x.copy(0, 0, 1, 0, 0), 0);
        due.is("none, at both ends", x.copy(0, 5, 1, 3, 0), 0);
        cells(due, x, 1, 2, 7, 8, 9);
    }

    @Says(in = "25", words = "UNKNOWN")
    static void copyUnknown(Due due) {
        MacroKeys x = rows();
        for (int k : Due.beyond(0, 3)) {
            due.is("the first, " + k, x.copy(k, 0, 0, 0, 1), -1);
            due.is("the other, " + k, x.copy(0, 0, k, 0, 1), -1);
            due.is("fault()", x.fault(), 0);
        }
    }

    @Says(in = "25", words = "FAULTS NULL (the first, the other)")
    static void copyNull(Due due) {
        MacroKeys x = rows();
        due.fails(x, "the first", x.copy(3, 0, 0, 0, 1), 1);
        due.fails(x, "the other", x.copy(0, 0, 3, 0, 1), 1);
        due.fails(x, "both", x.copy(3, 0, 3, 0, 1), 1);
        due.fails(x, "none of nothing", x.copy(3, 0, 0, 0, 0), 1);
        due.fails(x, "none to nothing", x.copy(0, 0, 3, 0, 0), 1);
    }

    @Says(in = "25", words = "CAST (unlike LANES)")
    static void copyCast(Due due) {
        MacroKeys x = new MacroKeys();
        for (int k = 0; k < 3; k++) {
            Due.row(x, k, k, 5);
        }
        for (int k = 0; k < 3; k++) {
            for (int other = 0; other < 3; other++) {
                due.is(k + " to " + other, x.copy(k, 0, other, 0, 1), k == other ? 1 : -12);
                due.is(k + " to " + other + ", none", x.copy(k, 0, other, 0, 0), k == other ? 0 : -12);
                due.is("fault()", x.fault(), k == other ? 0 : 2);
            }
        }
    }

    @Says(in = "25", words = "INDEX: i, j, n below 0 or beyond")
    static void copyIndex(Due due) {
        MacroKeys x = rows();
        for (int i : Due.beyond(0, 5)) {
            due.fails(x, "none from i " + i, x.copy(0, i, 1, 0, 0), 3);
            due.fails(x, "one from i " + i, x.copy(0, i, 1, 0, 1), 3);
        }
        due.fails(x, "one behind all", x.copy(0, 5, 1, 0, 1), 3);
        due.fails(x, "one too many from i on", x.copy(0, 4, 1, 0, 2), 3);
        for (int j : Due.beyond(0, 3)) {
            due.fails(x, "none to j " + j, x.copy(0, 0, 1, j, 0), 3);
            due.fails(x, "one to j " + j, x.copy(0, 0, 1, j, 1), 3);
        }
        due.fails(x, "one to behind all", x.copy(0, 0, 1, 3, 1), 3);
        due.fails(x, "one too many from j on", x.copy(0, 0, 1, 2, 2), 3);
        for (int n : Due.beyond(0, 3)) {
            due.fails(x, "n " + n, x.copy(0, 0, 1, 0, n), 3);
        }
        due.fails(x, "i and n wrap to 5", x.copy(0, Due.MIN + 6, 1, 0, Due.MAX), 3);
        due.fails(x, "j and n wrap to 3", x.copy(0, 0, 1, Due.MIN + 4, Due.MAX), 3);
        cells(due, x, 1, 2, 7, 8, 9);
        due.is("just all", x.copy(0, 2, 1, 0, 3), 3);
    }

    // ---- promises 26 to 28

    @Says(in = "26", words = "TELLING of a MACRO")
    static void tell(Due due) {
        MacroKeys x = Due.with("k;p3a;b1ab;e2abc");
        int[] want = {3, 101, 104};
        for (int m = 0; m < 3; m++) {
            due.is("tell(" + m + ")", x.tell(m), want[m]);
        }
    }

    @Says(in = "26", words = "UNKNOWN")
    static void tellUnknown(Due due) {
        MacroKeys x = Due.with("k;p3a;b1ab");
        for (int m : Due.beyond(0, 1)) {
            due.is("tell(" + m + ")", x.tell(m), -1);
        }
        due.is("no body begins", x.trace(), 0);
        due.is("of none", new MacroKeys().tell(0), -1);
    }

    @Says(in = "27", words = "How it is CLICKED")
    static void click(Due due) {
        MacroKeys x = Due.with("k;p3a;b1ab;e2abc");
        int[] want = {1, 2, 90};
        for (int m = 0; m < 3; m++) {
            due.is("click(" + m + ")", x.click(m), want[m]);
        }
        due.is("trace", x.trace(), (4 * 31 + 4) * 31 + 5);
    }

    @Says(in = "27", words = "UNKNOWN")
    static void clickUnknown(Due due) {
        MacroKeys x = Due.with("k;p3a;b1ab");
        for (int m : Due.beyond(0, 1)) {
            due.is("click(" + m + ")", x.click(m), -1);
        }
        due.is("no body begins", x.trace(), 0);
        due.is("of none", new MacroKeys().click(0), -1);
    }

    private static MacroKeys kinds() {
        return Due.with("k;p1a;b1a;e1a");
    }

    @Says(in = "28", words = "A MACRO, taken as one of a kind: 1")
    static void as(Due due) {
        MacroKeys x = kinds();
        x.put(0, 0, 0);
        for (int m = 0; m < 3; m++) {
            due.is("as what it is", x.as(m, m), 1);
            due.is("fault()", x.fault(), 0);
            due.is("its kind stays", x.ofMacro(m, 0), m);
        }
    }

    @Says(in = "28", words = "UNKNOWN")
    static void asUnknown(Due due) {
        MacroKeys x = kinds();
        for (int m : Due.beyond(0, 2)) {
            due.is("as(" + m + ", 0)", x.as(m, 0), -1);
            due.is("fault()", x.fault(), 0);
        }
        due.is("of none", new MacroKeys().as(0, 0), -1);
    }

    @Says(in = "28", words = "OUTSIDE")
    static void asOutside(Due due) {
        MacroKeys x = kinds();
        for (int m = 0; m < 3; m++) {
            for (int kind : Due.beyond(0, 2)) {
                due.is("as(" + m + ", " + kind + ")", x.as(m, kind), -2);
                due.is("fault()", x.fault(), 0);
            }
        }
    }

    @Says(in = "28", words = "CAST: it is none")
    static void asCast(Due due) {
        MacroKeys x = kinds();
        due.fails(x, "plain as broad", x.as(0, 1), 2);
        due.fails(x, "plain as even", x.as(0, 2), 2);
        due.fails(x, "broad as even", x.as(1, 2), 2);
        due.is("its kind stays", x.ofMacro(0, 0), 0);
    }

    @Says(in = "28", words = "(each is a PLAIN one, too")
    static void asPlain(Due due) {
        for (int m = 0; m < 3; m++) {
            due.is("as(" + m + ", 0)", kinds().as(m, 0), 1);
        }
    }

    @Says(in = "28", words = "an EVEN one is a BROAD one)")
    static void evenAsBroad(Due due) {
        due.is("even as broad", kinds().as(2, 1), 1);
        due.is("even as even", kinds().as(2, 2), 1);
    }

    // ---- promises 29 and 30

    @Says(in = "29", words = "TRACE")
    static void trace(Due due) {
        MacroKeys x = kinds();
        due.is("at first", x.trace(), 0);
        x.tell(1);
        x.click(2);
        int want = (2 * 31 + 1) * 31 + 5;
        due.is("told and clicked", x.trace(), want);
        due.is("once more", x.trace(), want);
        x.play(1);
        x.as(2, 1);
        x.as(0, 1);
        x.ofMacro(1, 2);
        x.kinds(0);
        due.is("other calls leave it", x.trace(), want);
        Due.text(x, "k;p1a");
        due.is("a text leaves it", x.trace(), want);
    }

    @Says(in = "30", words = "The FAULT of the latest call that names one")
    static void latestFault(Due due) {
        MacroKeys x = kinds();
        due.fails(x, "null", x.put(0, 0, 0), 1);
        due.fails(x, "cast", x.as(0, 1), 2);
        due.fails(x, "index", x.put(3, 60, 0), 3);
        due.fails(x, "size", x.sheet(0, 0, -1), 4);
        due.loses(x, "null", x.cell(0, 0, 0), 1);
        due.fails(x, "index", x.copy(3, 0, 3, 0, -1), 3);
        List<ToLongFunction<MacroKeys>> others = callsWithoutFaults();
        for (int c = 0; c < others.size(); c++) {
            others.get(c).applyAsLong(x);
            due.is("left by call " + c + " that names none", x.fault(), 3);
        }
    }

    private static List<ToLongFunction<MacroKeys>> callsWithoutFaults() {
        return List.of(x -> x.ofMacro(0, 0), x -> x.key(0, 0), x -> x.times(0, 2), x -> x.press(0), x -> x.play(0),
            x -> x.letter(0), x -> x.clear(), x -> x.again(0, 0), x -> x.like(0, 8), x -> x.still(0), x -> x.come(),
            x -> x.reading(0, 1), x -> x.back(0), x -> x.timings(0), x -> x.kinds(0), x -> x.odds(2, 0),
            x -> x.lose(0), x -> x.tell(2), x -> x.click(2), x -> x.trace(), x -> x.fault(), x -> x.many(0),
            x -> x.ofMacro(9, 0), x -> x.key(9, 0), x -> x.times(9, 2), x -> x.press(9), x -> x.play(9),
            x -> x.letter(9), x -> x.again(9, 0), x -> x.like(0, 11), x -> x.still(11), x -> x.reading(9, 1),
            x -> x.back(9), x -> x.timings(9), x -> x.kinds(9), x -> x.odds(9, 0), x -> x.lose(9), x -> x.tell(9),
            x -> x.click(9), x -> x.many(9));
    }

    /** Behind a fault, each of some calls that name faults. */
    private static void noFaultBehind(Due due, List<ToLongFunction<MacroKeys>> calls) {
        for (int c = 0; c < calls.size(); c++) {
            MacroKeys x = kinds();
            Due.row(x, 1, 2, 0, 1, 2);
            due.fails(x, "a fault ahead of it", x.put(0, 0, 0), 1);
            calls.get(c).applyAsLong(x);
            due.is("call " + c, x.fault(), 0);
        }
    }

    @Says(in = "30", words = "0: it came to none")
    static void cameToNone(Due due) {
        noFaultBehind(due, List.of(x -> x.macros(3, 0, 0, 5), x -> x.row(1, 2, 0, 3, 0),
            x -> x.fewest(1, 2, 0, 3, -1), x -> x.sheet(1, 0, 1), x -> x.put(1, 2, 1), x -> x.cell(1, 2, 2),
            x -> x.copy(1, 0, 1, 1, 2), x -> x.as(2, 1)));
    }

    @Says(in = "30", words = "or was refused")
    static void wasRefused(Due due) {
        noFaultBehind(due, List.of(x -> x.macros(4, 0, 0, 5), x -> x.macros(3, 3, 0, 5), x -> x.macros(3, 0, 0, 4),
            x -> x.row(4, 2, 0, 3, 0), x -> x.row(1, 3, 0, 3, 0), x -> x.row(1, 2, 0, 21, 0),
            x -> x.fewest(4, 2, 0, 3, -1), x -> x.fewest(1, 3, 0, 3, -1), x -> x.fewest(1, 2, 0, 6, -1),
            x -> x.sheet(4, 0, 1), x -> x.sheet(1, 3, 1), x -> x.sheet(1, 0, 61), x -> x.put(4, 2, 1),
            x -> x.cell(4, 2, 2), x -> x.cell(1, 2, 3), x -> x.copy(4, 0, 1, 1, 2), x -> x.copy(1, 0, 4, 1, 2),
            x -> x.as(3, 1), x -> x.as(2, 3)));
    }

    @Says(in = "30", words = "(0 ahead of any)")
    static void aheadOfAny(Due due) {
        MacroKeys x = new MacroKeys();
        due.is("at first", x.fault(), 0);
        x.press(0);
        x.many(9);
        due.is("behind calls that name none", x.fault(), 0);
    }

    // ---- promise 31

    @Says(in = "31", words = "How many: 0 MACROS")
    static void manyMacros(Due due) {
        MacroKeys x = new MacroKeys();
        due.is("at first", x.many(0), 0);
        Due.text(x, "k;p1a;p1b;p1c");
        due.is("three", x.many(0), 3);
        Due.text(x, "k;p1a");
        due.is("one", x.many(0), 1);
        Due.text(x, "k;p1a;p1b;p1c;");
        due.is("one still", x.many(0), 1);
    }

    @Says(in = "31", words = "1 letters of THE LINE")
    static void manyLetters(Due due) {
        String[] lines = {"|", "|a", "a|b", "abc|", "|abcd", "ab|cda"};
        for (int n = 0; n <= 5; n++) {
            due.is("letters of " + lines[n], Due.typed(lines[n]).many(1), n);
        }
    }

    @Says(in = "31", words = "2 the CURSOR (behind how many letters it is)")
    static void manyAhead(Due due) {
        String[] lines = {"|abcda", "a|bcda", "ab|cda", "abc|da", "abcd|a", "abcda|"};
        for (int n = 0; n <= 5; n++) {
            due.is("cursor of " + lines[n], Due.typed(lines[n]).many(2), n);
        }
        due.is("cursor of none", new MacroKeys().many(2), 0);
    }

    @Says(in = "31", words = "3 KEYS PRESSED (by press(), play(), each")
    static void manyPressed(Due due) {
        MacroKeys x = Due.with("k;p1a");
        due.is("at first", x.many(3), 0);
        x.press(0);
        due.is("one pressed", x.many(3), 1);
        x.play(0);
        due.is("one played", x.many(3), 2);
        x.press(5);
        due.is("one that bumps", x.many(3), 3);
        x.press(8);
        x.play(1);
        due.is("refused ones", x.many(3), 3);
        Due.row(x, 0, 0, 0, 1);
        x.row(0, 0, 0, 2, 0);
        x.fewest(0, 0, 0, 2, -1);
        x.again(0, 0);
        x.come();
        x.odds(2, 0);
        x.clear();
        due.is("other calls press none", x.many(3), 3);
    }

    @Says(in = "31", words = "those that MACROS press not, a MACRO is one)")
    static void manyPressedOfMacros(Due due) {
        MacroKeys x = Due.with("k;e3abcd;e30000;e31111");
        for (int m = 0; m < 3; m++) {
            x.play(m);
            due.is("macros played", x.many(3), m + 1);
        }
    }

    @Says(in = "31", words = "4 READINGS")
    static void manyReadings(Due due) {
        MacroKeys x = Due.with("k;p1a");
        for (int r = 0; r < 8; r++) {
            due.is("readings", x.many(4), r);
            x.reading(0, 1);
        }
        due.is("readings", x.many(4), 8);
        x.reading(0, 1);
        due.is("readings", x.many(4), 8);
        x.back(3);
        due.is("readings", x.many(4), 5);
    }

    @Says(in = "31", words = "OUTSIDE")
    static void manyOutside(Due due) {
        for (int what : Due.beyond(0, 4)) {
            due.is("many(" + what + ")", new MacroKeys().many(what), -2);
        }
    }

    @Says(in = "What it is", words = "An object is used for at most 512 calls after it has been made")
    static void allCalls(Due due) {
        MacroKeys x = new MacroKeys();
        for (int call = 1; call < 512; call++) {
            due.is("press, call " + call, x.press(call % 2 == 1 ? 0 : 6), 1);
        }
        due.is("call 512: pressed", x.many(3), 511);
        MacroKeys deep = Due.with("k;e3axb<;e3000h;e31101");
        // To here 24 for the sheet, its cells and the text.
        for (int call = 25; call < 512; call++) {
            deep.play(2);
        }
        due.is("call 512: played", deep.many(3), 487);
    }
}
