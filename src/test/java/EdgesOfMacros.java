/** A new object, MACROS by a TEXT, and what they are: the terms of part 1, promises 1 to 5. */
final class EdgesOfMacros {
    private static final String KINDS = "pbe";

    private EdgesOfMacros() {
    }

    /** The codes with which a text goes on, in their order; from all that a byte, cut or not, could be. */
    private static String goesOn(String text) {
        StringBuilder codes = new StringBuilder();
        MacroKeys x = new MacroKeys();
        for (int code = -260; code <= 400; code++) {
            if (code % 100 == 0) {
                x = new MacroKeys();
            }
            if (taken(x, text, code)) {
                codes.append(code < 0 || code > 127 ? "(" + code + ")" : "" + (char) code);
            }
        }
        for (int code : new int[] {Due.MIN, Due.MIN + 'a', 65536 + 'a', 65536 + ';', Due.MAX}) {
            codes.append(taken(new MacroKeys(), text, code) ? "(" + code + ")" : "");
        }
        return codes.toString();
    }

    private static boolean taken(MacroKeys x, String text, int code) {
        int n = text.length();
        if (x.cell(0, n, 2) == MacroKeys.LOST) {
            Due.row(x, 0, 2, (text + " ").chars().toArray());
        }
        x.put(0, n, code);
        return x.macros(0, 2, 0, n + 1) != -100 - n;
    }

    @Says(in = "Terms", words = "1 MACROS by a TEXT: k")
    static void textBegins(Due due) {
        due.is("begins with", goesOn(""), "k");
        due.is("k alone", Due.text(new MacroKeys(), "k"), -101);
    }

    @Says(in = "Terms", words = "then 1 to 3 of them")
    static void oneToThree(Due due) {
        MacroKeys x = new MacroKeys();
        due.is("none", Due.text(x, "k"), -101);
        due.is("one", Due.text(x, "k;p1a"), 1);
        due.is("two", Due.text(x, "k;p1a;p1b"), 2);
        due.is("three", Due.text(x, "k;p1a;p1b;p1c"), 3);
        due.is("four", Due.text(x, "k;p1a;p1b;p1c;p1d"), -113);
        due.is("a first goes on with", goesOn("k"), ";");
        due.is("a third may come", goesOn("k;p1a;p1abcd"), ";");
        due.is("a fourth may not", goesOn("k;p1a;p1b;p1abcd"), "");
    }

    @Says(in = "Terms", words = "numbered from 0 on")
    static void numbered(Due due) {
        MacroKeys x = Due.with("k;p1a;b2b;e3c");
        for (int m = 0; m < 3; m++) {
            due.is("kind of " + m, x.ofMacro(m, 0), m);
            due.is("times of " + m, x.ofMacro(m, 1), m + 1);
            due.is("key of " + m, x.key(m, 0), m);
        }
        for (int m : Due.beyond(0, 2)) {
            due.is("no macro " + m, x.ofMacro(m, 0), -1);
        }
    }

    @Says(in = "Terms", words = "each: ; and a letter (its kind)")
    static void kindLetter(Due due) {
        due.is("behind k", goesOn("k"), ";");
        due.is("a kind", goesOn("k;"), "bep");
        due.is("a second one's kind", goesOn("k;p1a;"), "bep");
        due.is("a third one's kind", goesOn("k;p1a;b1b;"), "bep");
    }

    @Says(in = "Terms", words = "a digit 1 .. 3 (TIMES)")
    static void timesDigit(Due due) {
        for (int kind = 0; kind < 3; kind++) {
            due.is("times", goesOn("k;" + KINDS.charAt(kind)), "123");
            for (int v = 1; v <= 3; v++) {
                due.is("times " + v, Due.with("k;" + KINDS.charAt(kind) + v + "a").ofMacro(0, 1), v);
            }
        }
        due.is("0 times", Due.text(new MacroKeys(), "k;p0a"), -103);
        due.is("4 times", Due.text(new MacroKeys(), "k;p4a"), -103);
        due.is("of a second one", goesOn("k;p1a;e"), "123");
    }

    @Says(in = "Terms", words = "then 1 to 4 KEYS")
    static void oneToFourKeys(Due due) {
        MacroKeys x = new MacroKeys();
        due.is("none, at the end", Due.text(x, "k;p1"), -104);
        due.is("none, ahead of another", Due.text(x, "k;p1;p1a"), -104);
        due.is("none, of a second one", Due.text(x, "k;p1a;p1;p1a"), -108);
        for (int n = 1; n <= 4; n++) {
            String keys = "abcd".substring(0, n);
            due.is(keys, Due.text(x, "k;p1" + keys), 1);
            due.is(keys + ", how many", x.ofMacro(0, 3), n);
            due.is(keys + ", and another", Due.text(x, "k;p1" + keys + ";p1a"), 2);
        }
        due.is("five", Due.text(x, "k;p1abcda"), -108);
    }

    @Says(in = "Terms", words = ": a .. d, <, >, x, h")
    static void keySigns(Due due) {
        due.is("a first key", goesOn("k;p1"), "<>abcdhx");
        due.is("a second key", goesOn("k;p1a"), ";<>abcdhx");
        due.is("a fourth key", goesOn("k;p1abc"), ";<>abcdhx");
    }

    @Says(in = "Terms", words = "or the digit of a MACRO ahead of it (0 .. its own number less 1)")
    static void macroDigits(Due due) {
        due.is("of 0", goesOn("k;p1"), "<>abcdhx");
        due.is("of 1", goesOn("k;p1a;p1"), "0<>abcdhx");
        due.is("of 2", goesOn("k;p1a;p1b;p1"), "01<>abcdhx");
        due.is("of 2, behind a key", goesOn("k;p1a;p1b;p1c"), "01<>abcdhx");
        due.is("its own, 0", Due.text(new MacroKeys(), "k;p10"), -104);
        due.is("its own, 1", Due.text(new MacroKeys(), "k;p1a;p11"), -108);
        due.is("its own, 2", Due.text(new MacroKeys(), "k;p1a;p1b;p12"), -112);
        due.is("one behind it", Due.text(new MacroKeys(), "k;p11;p1a"), -104);
    }

    @Says(in = "Terms", words = "FIRST FAULT: the place (from 0 on) of the first code with which no TEXT goes on")
    static void firstFault(Due due) {
        MacroKeys x = new MacroKeys();
        String whole = "k;p1ab;b2x0;e310d<";
        for (int p = 0; p < whole.length(); p++) {
            String broken = whole.substring(0, p) + "?" + whole.substring(p + 1);
            due.is(broken, Due.text(x, broken), -100 - p);
            x = new MacroKeys();
        }
        due.is("of two the first", Due.text(x, "k;p?a;q"), -103);
        due.is("none", Due.text(x, whole), 3);
        due.is("it is no fault of the machine", x.fault(), 0);
    }

    @Says(in = "Terms", words = "(a fifth KEY")
    static void fifthKey(Due due) {
        MacroKeys x = new MacroKeys();
        due.is("of 0", Due.text(x, "k;p1abcda;p1a"), -108);
        due.is("of 1", Due.text(x, "k;p1a;p1<>xh0"), -112);
        due.is("of 2", Due.text(x, "k;p1a;p1b;p101010"), -116);
        due.is("behind four keys", goesOn("k;p1abcd"), ";");
        due.is("behind four keys of 1", goesOn("k;p1a;e30000"), ";");
    }

    @Says(in = "Terms", words = "the ; of a fourth MACRO)")
    static void fourthMacro(Due due) {
        MacroKeys x = new MacroKeys();
        due.is("its ;", Due.text(x, "k;p1a;p1b;p1c;"), -113);
        due.is("its ;, and more", Due.text(x, "k;p1a;p1b;p1c;p1d"), -113);
        due.is("behind four keys", Due.text(x, "k;p1a;p1b;p1abcd;"), -116);
        due.is("the ; of a third", Due.text(x, "k;p1a;p1b;"), -110);
    }

    @Says(in = "Terms", words = "how many codes there are, if it just ends too soon")
    static void endsTooSoon(Due due) {
        String whole = "k;p1a;b2b;e3c";
        for (int n = 0; n <= whole.length(); n++) {
            boolean taken = n > 0 && n % 4 == 1 && n > 1;
            int want = taken ? (n - 1) / 4 : -100 - n;
            due.is(whole.substring(0, n), Due.text(new MacroKeys(), whole.substring(0, n)), want);
        }
        MacroKeys x = new MacroKeys();
        Due.row(x, 0, 1, '?', '?', 'k', ';', '?');
        due.is("the text ends, the row does not", x.macros(0, 1, 2, 2), -102);
    }

    @Says(in = "Terms", words = "(Codes: k 107, p 112, b 98, e 101, ; 59, a .. d 97 .. 100, < 60, > 62, x 120, h 104,"
        + " digits 48 .. 57.)")
    static void codes(Due due) {
        MacroKeys x = new MacroKeys();
        Due.row(x, 0, 1, 107, 59, 112, 49, 97, 98, 99, 100, 59, 98, 50, 60, 62, 120, 104, 59, 101, 51, 48, 49);
        due.is("three macros", x.macros(0, 1, 0, 20), 3);
        int[][] want = {{0, 1, 4, 0, 1, 2, 3}, {1, 2, 4, 4, 5, 6, 7}, {2, 3, 2, 8, 9}};
        for (int m = 0; m < 3; m++) {
            due.is("kind", x.ofMacro(m, 0), want[m][0]);
            due.is("times", x.ofMacro(m, 1), want[m][1]);
            due.is("keys", x.ofMacro(m, 3), want[m][2]);
            for (int i = 0; i < want[m][2]; i++) {
                due.is("key " + i, x.key(m, i), want[m][3 + i]);
            }
        }
    }

    @Says(in = "Terms", words = "Kinds: 0 PLAIN (p)")
    static void plain(Due due) {
        isOfKinds(due, "k;p2a", 0);
    }

    @Says(in = "Terms", words = "1 BROAD (b), a PLAIN one")
    static void broad(Due due) {
        isOfKinds(due, "k;b2a", 1);
    }

    @Says(in = "Terms", words = "2 EVEN (e), a BROAD one")
    static void even(Due due) {
        isOfKinds(due, "k;e2a", 2);
    }

    private static void isOfKinds(Due due, String text, int kind) {
        MacroKeys x = Due.with(text);
        due.is("kind", x.ofMacro(0, 0), kind);
        for (int each = 0; each < 3; each++) {
            due.is("taken as " + each, x.as(0, each), each <= kind ? 1 : -12);
        }
    }

    @Says(in = "Terms", words = "A TEXT that is taken makes all anew")
    static void allAnew(Due due) {
        MacroKeys x = Due.with("k;p1ab;b1c;e1d");
        due.is("ab and a are alike on four letters and five", x.like(8, 0), 1280 + 6144);
        x.times(0, 3);
        x.play(0);
        due.is("another text", Due.text(x, "k;p1a"), 1);
        due.is("macros", x.many(0), 1);
        due.is("keys", x.ofMacro(0, 3), 1);
        due.is("times", x.ofMacro(0, 1), 1);
        due.is("no macro 1", x.play(1), -1);
        due.is("no macro 2", x.play(2), -1);
        due.is("a is like a", x.like(8, 0), 7737);
        due.is("the same text once more", x.macros(3, 0, 0, 5), 1);
        due.is("times", x.times(0, 2), 1);
    }

    @Says(in = "Terms", words = ": THE LINE is empty")
    static void lineAnew(Due due) {
        MacroKeys x = Due.with("k;p1a");
        Due.type(x, "ab|c");
        Due.text(x, "k;p1");
        due.line(x, "ab|c");
        Due.text(x, "k;p1b");
        due.line(x, "|");
        due.is("letters", x.many(1), 0);
        due.is("cursor", x.many(2), 0);
    }

    @Says(in = "Terms", words = "nothing was PRESSED")
    static void pressedAnew(Due due) {
        MacroKeys x = Due.with("k;p1a");
        x.press(0);
        x.play(0);
        Due.text(x, "k;p1");
        due.is("not taken", x.many(3), 2);
        Due.text(x, "k;p1b");
        due.is("taken", x.many(3), 0);
    }

    @Says(in = "Terms", words = "no READINGS")
    static void readingsAnew(Due due) {
        MacroKeys x = Due.with("k;p1a");
        x.reading(0, 1);
        x.reading(0, 5);
        Due.text(x, "k;p1");
        due.is("not taken", x.many(4), 2);
        due.is("not taken", x.timings(0), 0);
        Due.text(x, "k;p1a");
        due.is("taken", x.many(4), 0);
        due.is("all may be", x.timings(0), 14);
        due.is("the next one's number", x.reading(0, 1), 0);
    }

    @Says(in = "Terms", words = "OFTEN: how many times a MACRO plays its KEYS: a PLAIN one TIMES")
    static void oftenPlain(Due due) {
        often(due, "p", 1, 2, 3);
    }

    @Says(in = "Terms", words = "a BROAD one 1 more")
    static void oftenBroad(Due due) {
        often(due, "b", 2, 3, 4);
    }

    @Says(in = "Terms", words = "an EVEN one twice what a PLAIN one does")
    static void oftenEven(Due due) {
        often(due, "e", 2, 4, 6);
    }

    private static void often(Due due, String kind, int... want) {
        for (int v = 1; v <= 3; v++) {
            MacroKeys x = Due.with("k;" + kind + v + "xh");
            due.is("often, " + v, x.ofMacro(0, 2), want[v - 1]);
            due.is("x and h bump so often, " + v, x.play(0), 2 * want[v - 1]);
        }
    }

    // ---- promise 1

    @Says(in = "1", words = "No MACROS")
    static void newWithoutMacros(Due due) {
        MacroKeys x = new MacroKeys();
        due.is("macros", x.many(0), 0);
        due.is("play", x.play(0), -1);
        due.is("ofMacro", x.ofMacro(0, 0), -1);
        due.is("still of it", x.still(8), -1);
    }

    @Says(in = "1", words = "THE LINE is empty")
    static void newLine(Due due) {
        MacroKeys x = new MacroKeys();
        due.line(x, "|");
        due.is("letter", x.letter(0), -1);
        due.is("clear", x.clear(), 0);
    }

    @Says(in = "1", words = "SHEETS have nothing")
    static void newSheets(Due due) {
        for (int k = 0; k < 4; k++) {
            MacroKeys x = new MacroKeys();
            due.fails(x, "put", x.put(k, 0, 0), 1);
            due.is("lose", x.lose(k), 0);
        }
    }

    // ---- promise 2

    /** A text of bytes, shorts, ints on sheets 0, 1, 2, two cells ahead of it and one behind. */
    private static MacroKeys withTexts() {
        MacroKeys x = new MacroKeys();
        for (int k = 0; k < 3; k++) {
            Due.row(x, k, k, '?', '?', 'k', ';', 'p', '1', 'a', '?');
        }
        return x;
    }

    @Says(in = "2", words = "MACROS by a TEXT of n cells of a SHEET from i on, taken as a row of a LANE")
    static void textOfCells(Due due) {
        MacroKeys x = withTexts();
        for (int k = 0; k < 3; k++) {
            due.is("from 2 on", x.macros(k, k, 2, 5), 1);
            due.is("its key", x.key(0, 0), 0);
            due.is("one more", x.macros(k, k, 2, 6), -105);
            due.is("one less", x.macros(k, k, 2, 4), -104);
            due.is("from 1 on", x.macros(k, k, 1, 5), -100);
        }
        Due.row(x, 3, 0, 'k', ';', 'e', '3', 'x');
        due.is("all cells of the last sheet", x.macros(3, 0, 0, 5), 1);
        x.put(3, 4, 'h');
        due.is("a cell is changed, the macro is not", x.key(0, 0), 6);
        x.sheet(3, 2, 60);
        due.is("60 cells", x.macros(3, 2, 0, 60), -100);
        due.is("the last of them", x.macros(3, 2, 59, 1), -100);
    }

    @Says(in = "2", words = "how many")
    static void howManyMacros(Due due) {
        MacroKeys x = new MacroKeys();
        due.is("one", Due.text(x, "k;p1abcd"), 1);
        due.is("two", Due.text(x, "k;p1a;e3x"), 2);
        due.is("three", Due.text(x, "k;p1a;e3x;b2<"), 3);
        due.is("three", x.many(0), 3);
    }

    @Says(in = "2", words = "-100 less the FIRST FAULT")
    static void lessFirstFault(Due due) {
        MacroKeys x = withTexts();
        due.is("place 0", x.macros(0, 0, 0, 8), -100);
        due.is("place 0, of the text", x.macros(0, 0, 1, 7), -100);
        due.is("place 5, of the text", x.macros(0, 0, 2, 6), -105);
        due.is("no codes", x.macros(0, 0, 2, 0), -100);
        due.is("no codes, behind all", x.macros(0, 0, 8, 0), -100);
        due.is("the last place of the longest text", Due.text(x, "k;p1abcd;b20000;e31111;"), -122);
    }

    @Says(in = "2", words = "UNKNOWN")
    static void macrosOfNoSheet(Due due) {
        MacroKeys x = withTexts();
        for (int k : Due.beyond(0, 3)) {
            due.is("sheet " + k, x.macros(k, 0, 2, 5), -1);
            due.is("fault()", x.fault(), 0);
        }
    }

    @Says(in = "2", words = "OUTSIDE: lane")
    static void macrosOfNoLane(Due due) {
        MacroKeys x = withTexts();
        for (int lane : Due.beyond(0, 2)) {
            due.is("lane " + lane, x.macros(0, lane, 2, 5), -2);
            due.is("of nothing", x.macros(3, lane, 2, 5), -2);
            due.is("fault()", x.fault(), 0);
        }
    }

    @Says(in = "2", words = "FAULTS CAST (nothing is no CAST)")
    static void macrosCast(Due due) {
        MacroKeys x = withTexts();
        for (int k = 0; k < 3; k++) {
            for (int lane = 0; lane < 3; lane++) {
                due.is("sheet " + k + " as " + lane, x.macros(k, lane, 2, 5), k == lane ? 1 : -12);
                due.is("fault()", x.fault(), k == lane ? 0 : 2);
            }
            due.fails(x, "nothing as " + k, x.macros(3, k, 2, 5), 1);
        }
    }

    @Says(in = "2", words = ", NULL")
    static void macrosNull(Due due) {
        MacroKeys x = withTexts();
        due.fails(x, "nothing at first", x.macros(3, 0, 0, 0), 1);
        x.lose(0);
        due.fails(x, "nothing any more", x.macros(0, 0, 2, 5), 1);
    }

    @Says(in = "2", words = "SIZE: n is below 0")
    static void macrosSize(Due due) {
        MacroKeys x = withTexts();
        due.fails(x, "just below", x.macros(0, 0, 2, -1), 4);
        due.fails(x, "far below", x.macros(0, 0, 2, Due.MIN), 4);
        due.fails(x, "where there are no cells, too", x.macros(0, 0, 99, -1), 4);
        due.is("0 is not", x.macros(0, 0, 2, 0), -100);
    }

    @Says(in = "2", words = "INDEX: not all cells are there")
    static void macrosIndex(Due due) {
        MacroKeys x = withTexts();
        due.fails(x, "one too many", x.macros(0, 0, 0, 9), 3);
        due.fails(x, "one too many from 2 on", x.macros(0, 0, 2, 7), 3);
        due.fails(x, "one ahead of all", x.macros(0, 0, -1, 5), 3);
        due.fails(x, "one behind all", x.macros(0, 0, 8, 1), 3);
        due.fails(x, "none, beyond", x.macros(0, 0, 9, 0), 3);
        due.fails(x, "most", x.macros(0, 0, 0, Due.MAX), 3);
        due.fails(x, "i and n wrap to 5", x.macros(0, 0, Due.MIN + 6, Due.MAX), 3);
        due.fails(x, "i and n wrap below 0", x.macros(0, 0, Due.MAX, Due.MAX), 3);
        due.is("just all", x.macros(0, 0, 0, 8), -100);
    }

    @Says(in = "2", words = "-100 less it")
    static void firstFaultIsLast(Due due) {
        MacroKeys x = withTexts();
        due.fails(x, "a cast is ahead of it", x.macros(0, 1, 0, 8), 2);
        due.fails(x, "an index is ahead of it", x.macros(0, 0, 0, 9), 3);
        due.is("it", x.macros(0, 0, 0, 8), -100);
        due.is("it leaves no fault", x.fault(), 0);
        due.is("and no macros", x.many(0), 0);
    }

    // ---- promise 3

    private static MacroKeys three() {
        return Due.with("k;p3a;b2<0;e310xh");
    }

    @Says(in = "3", words = "Of a MACRO: 0 kind")
    static void ofMacroKind(Due due) {
        ofMacro(due, 0, 0, 1, 2);
    }

    @Says(in = "3", words = "1 TIMES")
    static void ofMacroTimes(Due due) {
        ofMacro(due, 1, 3, 2, 3);
    }

    @Says(in = "3", words = "2 OFTEN")
    static void ofMacroOften(Due due) {
        ofMacro(due, 2, 3, 3, 6);
    }

    @Says(in = "3", words = "3 how many KEYS are on it")
    static void ofMacroKeys(Due due) {
        ofMacro(due, 3, 1, 2, 4);
    }

    @Says(in = "3", words = "4 how many of KEYS 0 .. 7 it presses in all")
    static void ofMacroPresses(Due due) {
        // 3; 3 times 1 and 3; 6 times 12 and 3 and 2.
        ofMacro(due, 4, 3, 12, 102);
        MacroKeys x = Due.with("k;p1x;p10;p11");
        due.is("a macro itself is not pressed", x.ofMacro(2, 4), 1);
        x.times(0, 3);
        due.is("by what it plays now", x.ofMacro(2, 4), 3);
        due.is("as many bump", x.play(2), 3);
        due.is("most", Due.with("k;e3abcd;e30000;e31111").ofMacro(2, 4), 13824);
    }

    private static void ofMacro(Due due, int what, int... want) {
        MacroKeys x = three();
        for (int m = 0; m < 3; m++) {
            due.is("ofMacro(" + m + ", " + what + ")", x.ofMacro(m, what), want[m]);
        }
    }

    @Says(in = "3", words = "UNKNOWN")
    static void ofNoMacro(Due due) {
        for (int m : Due.beyond(0, 2)) {
            for (int what = 0; what < 5; what++) {
                due.is("ofMacro(" + m + ", " + what + ")", three().ofMacro(m, what), -1);
            }
        }
        due.is("the second of one", Due.with("k;p1a").ofMacro(1, 0), -1);
        due.is("of none", new MacroKeys().ofMacro(0, 0), -1);
    }

    @Says(in = "3", words = "OUTSIDE")
    static void ofMacroOutside(Due due) {
        for (int what : Due.beyond(0, 4)) {
            due.is("ofMacro(0, " + what + ")", three().ofMacro(0, what), -2);
        }
    }

    // ---- promise 4

    @Says(in = "4", words = "KEY i (from 0 on) on a MACRO, as a number 0 .. 10")
    static void keyOnMacro(Due due) {
        MacroKeys x = Due.with("k;p1abcd;b1<>xh;e101a1");
        int[][] want = {{0, 1, 2, 3}, {4, 5, 6, 7}, {8, 9, 0, 9}};
        for (int m = 0; m < 3; m++) {
            for (int i = 0; i < 4; i++) {
                due.is("key(" + m + ", " + i + ")", x.key(m, i), want[m][i]);
            }
        }
        // 10 would be macro 2, which no macro is behind of: no text puts it on one.
        due.is("2 on a macro", Due.text(x, "k;p1a;p1b;p12"), -112);
    }

    @Says(in = "4", words = "UNKNOWN: MACRO")
    static void keyOnNoMacro(Due due) {
        for (int m : Due.beyond(0, 2)) {
            due.is("key(" + m + ", 0)", three().key(m, 0), -1);
        }
        due.is("on the second of one", Due.with("k;p1a").key(1, 0), -1);
        due.is("on none", new MacroKeys().key(0, 0), -1);
    }

    @Says(in = "4", words = "there are not so many")
    static void noSuchKey(Due due) {
        MacroKeys x = three();
        int[] many = {1, 2, 4};
        for (int m = 0; m < 3; m++) {
            due.is("the last", x.key(m, many[m] - 1) >= 0 ? 1 : 0, 1);
            for (int i : Due.beyond(0, many[m] - 1)) {
                due.is("key(" + m + ", " + i + ")", x.key(m, i), -1);
            }
        }
        Due.text(x, "k;p1abcd");
        Due.text(x, "k;p1a");
        due.is("fewer than before", x.key(0, 1), -1);
    }

    // ---- promise 5

    @Says(in = "5", words = "TIMES of a MACRO becomes v (1 .. 3)")
    static void timesBecomes(Due due) {
        MacroKeys x = three();
        for (int m = 0; m < 3; m++) {
            for (int v = 1; v <= 3; v++) {
                x.times(m, v);
                due.is("times of " + m, x.ofMacro(m, 1), v);
                due.is("its kind stays", x.ofMacro(m, 0), m);
            }
        }
        x = Due.with("k;p1a;p10");
        x.play(1);
        due.line(x, "a|");
        x.times(0, 2);
        x.clear();
        x.play(1);
        due.line(x, "aa|");
        x.times(1, 2);
        x.clear();
        x.play(1);
        due.line(x, "aaaa|");
        x.clear();
        x.play(0);
        due.line(x, "aa|");
    }

    @Says(in = "5", words = "what it was")
    static void timesWas(Due due) {
        MacroKeys x = three();
        due.is("of the text", x.times(0, 1), 3);
        due.is("of a call", x.times(0, 2), 1);
        due.is("the same once more", x.times(0, 2), 2);
        due.is("the same once more", x.times(0, 3), 2);
        due.is("another one's", x.times(1, 3), 2);
    }

    @Says(in = "5", words = "UNKNOWN")
    static void timesOfNoMacro(Due due) {
        for (int m : Due.beyond(0, 2)) {
            due.is("times(" + m + ", 1)", three().times(m, 1), -1);
        }
        due.is("of the second of one", Due.with("k;p1a").times(1, 1), -1);
        due.is("of none", new MacroKeys().times(0, 1), -1);
    }

    @Says(in = "5", words = "OUTSIDE")
    static void timesOutside(Due due) {
        MacroKeys x = three();
        for (int v : Due.beyond(1, 3)) {
            due.is("times(1, " + v + ")", x.times(1, v), -2);
            due.is("as it was", x.ofMacro(1, 1), 2);
        }
    }
}
