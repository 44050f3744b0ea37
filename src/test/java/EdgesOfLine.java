/** THE LINE, its KEYS, and a ROW told: the terms of part 2, promises 6 to 10. */
final class EdgesOfLine {
    private static final int A = 0, BACK = 4, ON = 5, TAKE = 6, HOME = 7;
    private static final String[] LINES = {"|", "|a", "a|", "|ab", "a|b", "ab|", "|abc", "a|bc", "abc|", "|abcd",
        "ab|cd", "abcd|", "|abcda", "a|bcda", "abc|da", "abcd|a", "abcda|"};

    private EdgesOfLine() {
    }

    private static void pressed(Due due, String from, int key, int want, String to) {
        MacroKeys x = Due.typed(from);
        due.is("press(" + key + ") on " + from, x.press(key), want);
        due.line(x, to);
    }

    private static int letters(String line) {
        return line.length() - 1;
    }

    private static int cursor(String line) {
        return line.indexOf('|');
    }

    @Says(in = "Terms", words = "2 THE LINE has 0 to 5 letters (0 a, 1 b, 2 c, 3 d)")
    static void noneToFive(Due due) {
        MacroKeys x = new MacroKeys();
        due.is("none", x.many(1), 0);
        int[] keys = {3, 2, 1, 0, 3};
        for (int i = 0; i < 5; i++) {
            due.is("one more", x.press(keys[i]), 1);
            due.is("letters", x.many(1), i + 1);
            due.is("the letter", x.letter(i), keys[i]);
        }
        due.is("a sixth", x.press(1), 0);
        due.is("letters", x.many(1), 5);
    }

    @Says(in = "Terms", words = "in places 0, 1, ..")
    static void places(Due due) {
        MacroKeys x = Due.typed("|dcba");
        for (int i = 0; i < 4; i++) {
            due.is("place " + i, x.letter(i), 3 - i);
        }
    }

    @Says(in = "Terms", words = "the CURSOR is ahead of all of them (0), or behind so many")
    static void cursorPlaces(Due due) {
        MacroKeys x = Due.typed("|abcda");
        for (int at = 0; at <= 5; at++) {
            due.is("cursor", x.many(2), at);
            due.is("one on", x.press(ON), at < 5 ? 1 : 0);
        }
        due.is("behind all", x.many(2), 5);
    }

    @Says(in = "Terms", words = "KEYS by numbers: 0 .. 3 a .. d: the letter is put where the CURSOR is")
    static void letterIsPut(Due due) {
        for (int key = 0; key < 4; key++) {
            String letter = "" + (char) ('a' + key);
            pressed(due, "|", key, 1, letter + "|");
            pressed(due, "|cb", key, 1, letter + "|cb");
            pressed(due, "c|b", key, 1, "c" + letter + "|b");
            pressed(due, "cb|", key, 1, "cb" + letter + "|");
            pressed(due, "ab|cd", key, 1, "ab" + letter + "|cd");
        }
    }

    @Says(in = "Terms", words = "which is behind it then")
    static void cursorBehindIt(Due due) {
        for (String line : LINES) {
            MacroKeys x = Due.typed(line);
            int fits = letters(line) < 5 ? 1 : 0;
            x.press(A);
            due.is("the cursor behind a on " + line, x.many(2), cursor(line) + fits);
        }
    }

    @Says(in = "Terms", words = "4 <: the CURSOR goes one letter back")
    static void goesBack(Due due) {
        pressed(due, "a|", BACK, 1, "|a");
        pressed(due, "ab|c", BACK, 1, "a|bc");
        pressed(due, "abcda|", BACK, 1, "abcd|a");
    }

    @Says(in = "Terms", words = "5 >: one on")
    static void goesOn(Due due) {
        pressed(due, "|a", ON, 1, "a|");
        pressed(due, "a|bc", ON, 1, "ab|c");
        pressed(due, "abcd|a", ON, 1, "abcda|");
    }

    @Says(in = "Terms", words = "6 x: the letter just ahead of the CURSOR is taken away")
    static void takesAway(Due due) {
        pressed(due, "a|", TAKE, 1, "|");
        pressed(due, "b|c", TAKE, 1, "|c");
        pressed(due, "ab|cd", TAKE, 1, "a|cd");
        pressed(due, "abcda|", TAKE, 1, "abcd|");
        pressed(due, "a|bcda", TAKE, 1, "|bcda");
    }

    @Says(in = "Terms", words = "7 h: the CURSOR goes ahead of all")
    static void goesHome(Due due) {
        pressed(due, "a|", HOME, 1, "|a");
        pressed(due, "ab|c", HOME, 1, "|abc");
        pressed(due, "abcda|", HOME, 1, "|abcda");
    }

    @Says(in = "Terms", words = "8 .. 10: MACROS 0 .. 2: their KEYS, one behind another, OFTEN times")
    static void macrosAreKeys(Due due) {
        MacroKeys x = Due.with("k;p2ab;b1c<;e1d>");
        due.is("8", digits(x, 8), 1212);
        due.is("9: c < c <", digits(x, 9), 33);
        due.is("9 leaves the cursor ahead of both", digits(x, 9, 0), 133);
        due.is("10: d > d >", digits(x, 10), 44);
        due.is("10 and a", digits(x, 10, 0), 441);
        MacroKeys y = Due.with("k;p2ab;p2c0");
        due.is("keys of a macro of macros: c abab c abab", digits(y, 9), 31212);
        due.is("what comes first goes first", digits(Due.with("k;p2ab;p20c"), 9), 12123);
    }

    private static int digits(MacroKeys x, int... keys) {
        Due.row(x, 0, 0, keys);
        return x.row(0, 0, 0, keys.length, 4);
    }

    @Says(in = "Terms", words = "A KEY BUMPS (nothing changes)")
    static void bumpsChangeNothing(Due due) {
        for (String line : LINES) {
            for (int key = 0; key < 8; key++) {
                MacroKeys x = Due.typed(line);
                int went = x.press(key);
                due.is("a bump of " + key + " on " + line, went == 0 ? 1 : 0, bumps(line, key) ? 1 : 0);
                due.is("the same line is left", Due.line(x).equals(line) ? 1 : 0, bumps(line, key) ? 1 : 0);
            }
        }
    }

    private static boolean bumps(String line, int key) {
        return key < BACK ? letters(line) == 5 : key == ON ? line.endsWith("|") : line.startsWith("|");
    }

    @Says(in = "Terms", words = "if it is 0 .. 3 and there are five letters")
    static void lettersBump(Due due) {
        for (int key = 0; key < 4; key++) {
            for (String full : new String[] {"|abcda", "a|bcda", "ab|cda", "abc|da", "abcd|a", "abcda|"}) {
                pressed(due, full, key, 0, full);
            }
            pressed(due, "abcd|", key, 1, "abcd" + (char) ('a' + key) + "|");
            pressed(due, "|abcd", key, 1, (char) ('a' + key) + "|abcd");
        }
    }

    @Says(in = "Terms", words = "4, 6 or 7 and the CURSOR is ahead of all")
    static void aheadOfAllBumps(Due due) {
        for (int key : new int[] {BACK, TAKE, HOME}) {
            for (String ahead : new String[] {"|", "|a", "|ab", "|abc", "|abcd", "|abcda"}) {
                pressed(due, ahead, key, 0, ahead);
            }
            due.is(key + " behind one", Due.typed("a|b").press(key), 1);
            due.is(key + " behind all", Due.typed("abcda|").press(key), 1);
        }
    }

    @Says(in = "Terms", words = "5 and it is behind all")
    static void behindAllBumps(Due due) {
        for (String behind : new String[] {"|", "a|", "ab|", "abc|", "abcd|", "abcda|"}) {
            pressed(due, behind, ON, 0, behind);
        }
        pressed(due, "|a", ON, 1, "a|");
        pressed(due, "abcd|a", ON, 1, "abcda|");
    }

    @Says(in = "Terms", words = "A MACRO does not BUMP")
    static void macroDoesNotBump(Due due) {
        MacroKeys x = Due.with("k;p1x;p1h;p1a");
        Due.row(x, 0, 0, 8, 9, 8);
        due.is("none of the row bumps", x.row(0, 0, 0, 3, 2), -9);
        due.is("by the keys they play three do", x.row(0, 0, 0, 3, 3), 3);
        x.play(0);
        due.is("it is pressed, though nothing changes", x.many(3), 1);
        due.line(x, "|");
    }

    @Says(in = "Terms", words = "KEYS that it plays may")
    static void keysOfMacroBump(Due due) {
        MacroKeys x = Due.with("k;p3abh");
        due.is("ab h ab h a, b bumps, h", x.play(0), 1);
        due.line(x, "|aabab");
        due.is("all letters bump, and h", x.play(0), 9);
        due.line(x, "|aabab");
    }

    @Says(in = "Terms", words = "A ROW told: KEYS one behind another, from THE LINE as it is now")
    static void rowFromLine(Due due) {
        MacroKeys x = Due.typed("b|c");
        due.is("a d", digits(x, 0, 3), 2143);
        due.is("d a", digits(x, 3, 0), 2413);
        due.is("no keys", digits(x), 23);
        x.press(HOME);
        due.is("a d, by where the cursor is now", digits(x, 0, 3), 1423);
    }

    @Says(in = "Terms", words = "(nothing is changed)")
    static void rowChangesNothing(Due due) {
        for (int what : new int[] {0, 1, 2, 3, 4, 10, 14}) {
            MacroKeys x = Due.with("k;p2ab;b1x0");
            Due.type(x, "c|d");
            x.reading(0, 4);
            Due.row(x, 0, 2, 9, 6, 8, 0, 7, 3);
            String before = Due.state(x);
            x.row(0, 2, 0, 6, what);
            due.is("what is left by " + what, Due.state(x), before);
        }
    }

    // ---- promise 6

    @Says(in = "6", words = "A KEY (0 .. 7) is PRESSED: 1")
    static void pressGoes(Due due) {
        for (int key = 0; key < 8; key++) {
            MacroKeys x = Due.typed("a|b");
            int before = x.many(3);
            due.is("press(" + key + ")", x.press(key), 1);
            due.is("pressed", x.many(3), before + 1);
        }
    }

    @Says(in = "6", words = "0: it BUMPS")
    static void pressBumps(Due due) {
        MacroKeys x = new MacroKeys();
        for (int key = 4; key < 8; key++) {
            due.is("press(" + key + ") on none", x.press(key), 0);
        }
        due.is("pressed all the same", x.many(3), 4);
        Due.type(x, "abcda|");
        for (int key = 0; key < 4; key++) {
            due.is("press(" + key + ") on five", x.press(key), 0);
        }
        due.is("pressed all the same", x.many(3), 4 + 5 + 4);
    }

    @Says(in = "6", words = "OUTSIDE")
    static void pressOutside(Due due) {
        MacroKeys x = Due.with("k;p1a;p1b;p1c");
        for (int key : Due.beyond(0, 7)) {
            due.is("press(" + key + ")", x.press(key), -2);
        }
        due.is("a macro is not pressed so", x.press(10), -2);
        due.is("pressed", x.many(3), 0);
        due.line(x, "|");
    }

    // ---- promise 7

    @Says(in = "7", words = "A MACRO is played")
    static void played(Due due) {
        MacroKeys x = Due.with("k;p1ab;b1c;e1x0");
        x.play(0);
        due.line(x, "ab|");
        x.play(1);
        due.line(x, "abcc|");
        x.play(2);
        due.line(x, "abcaa|");
        due.is("each is one key", x.many(3), 3);
    }

    @Says(in = "7", words = "how many of the KEYS that it presses BUMP")
    static void playBumps(Due due) {
        MacroKeys x = Due.with("k;p1a;b3x0;e3>01");
        due.is("none", x.play(0), 0);
        due.is("none: xa, four times", x.play(1), 0);
        x.clear();
        due.is("the first x", x.play(1), 1);
        due.is("of macros that it plays, too: > six times, a twice on five letters", x.play(2), 6 + 2);
        MacroKeys most = Due.with("k;e3hhhh;e30000;e31111");
        due.is("all there can be", most.play(2), 13824);
    }

    @Says(in = "7", words = "UNKNOWN")
    static void playNoMacro(Due due) {
        MacroKeys x = Due.with("k;p1a;p1b");
        for (int m : Due.beyond(0, 1)) {
            due.is("play(" + m + ")", x.play(m), -1);
        }
        due.is("pressed", x.many(3), 0);
        due.is("of none", new MacroKeys().play(0), -1);
    }

    // ---- promise 8

    @Says(in = "8", words = "The letter (0 .. 3) in a place of THE LINE")
    static void letterInPlace(Due due) {
        MacroKeys x = Due.typed("dc|bad");
        int[] want = {3, 2, 1, 0, 3};
        for (int i = 0; i < 5; i++) {
            due.is("letter(" + i + ")", x.letter(i), want[i]);
        }
    }

    @Says(in = "8", words = "UNKNOWN: there are not so many")
    static void noSuchLetter(Due due) {
        for (String line : LINES) {
            for (int i : Due.beyond(0, letters(line) - 1)) {
                due.is("letter(" + i + ") of " + line, Due.typed(line).letter(i), -1);
            }
        }
    }

    // ---- promise 9

    @Says(in = "9", words = "THE LINE is empty")
    static void clearEmpties(Due due) {
        for (String line : LINES) {
            MacroKeys x = Due.typed(line);
            x.clear();
            due.line(x, "|");
            due.is("a letter is the first then", x.press(A), 1);
            due.line(x, "a|");
        }
        MacroKeys x = Due.with("k;p1a");
        x.reading(0, 1);
        x.play(0);
        x.clear();
        due.is("macros stay", x.many(0), 1);
        due.is("what was pressed stays", x.many(3), 1);
        due.is("readings stay", x.many(4), 1);
    }

    @Says(in = "9", words = "how many letters it had")
    static void clearTells(Due due) {
        for (String line : LINES) {
            MacroKeys x = Due.typed(line);
            due.is("clear " + line, x.clear(), letters(line));
            due.is("once more", x.clear(), 0);
        }
    }

    // ---- promise 10

    /** Macro 0 bumps on no letters; a row of shorts on sheet 0, the same of bytes and ints on 1 and 2. */
    private static MacroKeys rows() {
        MacroKeys x = Due.with("k;p1x;b1a");
        Due.row(x, 0, 1, 9, 4, 8, 0, 1, 2, 3);
        Due.row(x, 1, 0, 9, 4, 8, 0, 1, 2, 3);
        Due.row(x, 2, 2, 9, 4, 8, 0, 1, 2, 3);
        return x;
    }

    @Says(in = "10", words = "A ROW of n KEYS, that are cells of a SHEET from i on")
    static void rowOfCells(Due due) {
        MacroKeys x = rows();
        int[] lanes = {1, 0, 2};
        for (int k = 0; k < 3; k++) {
            due.is("b c", x.row(k, lanes[k], 4, 2, 4), 23);
            due.is("d, the last", x.row(k, lanes[k], 6, 1, 4), 4);
            due.is("none at the end", x.row(k, lanes[k], 7, 0, 4), 0);
            due.is("all: aa, a|a, |a, and abcd with it", x.row(k, lanes[k], 0, 7, 4), 12341);
        }
    }

    @Says(in = "10", words = "how many letters there are then (what 0)")
    static void rowLetters(Due due) {
        MacroKeys x = rows();
        int[] want = {0, 2, 2, 1, 2, 3, 4, 5};
        for (int n = 0; n <= 7; n++) {
            due.is("letters after " + n, x.row(0, 1, 0, n, 0), want[n]);
        }
    }

    @Says(in = "10", words = "the CURSOR then (1)")
    static void rowCursor(Due due) {
        MacroKeys x = rows();
        int[] want = {0, 2, 1, 0, 1, 2, 3, 4};
        for (int n = 0; n <= 7; n++) {
            due.is("cursor after " + n, x.row(0, 1, 0, n, 1), want[n]);
        }
    }

    @Says(in = "10", words = "its first KEY that BUMPS, as a place of the row (2; NONE")
    static void rowFirstBump(Due due) {
        MacroKeys x = rows();
        due.is("none of none", x.row(0, 1, 0, 0, 2), -9);
        due.is("none of abcd", x.row(0, 1, 3, 4, 2), -9);
        due.is("< on no letters, place 0 of the row", x.row(0, 1, 1, 6, 2), 0);
        Due.row(x, 0, 1, 0, 4, 4, 4, 5, 5);
        due.is("the first of several", x.row(0, 1, 0, 6, 2), 2);
        due.is("the first of several, from 1 on", x.row(0, 1, 1, 5, 2), 0);
        x.sheet(0, 1, 20);
        due.is("the sixth a", x.row(0, 1, 0, 20, 2), 5);
        due.is("five a", x.row(0, 1, 0, 5, 2), -9);
        Due.type(x, "aaaa|");
        due.is("the second, by the line as it is", x.row(0, 1, 0, 20, 2), 1);
    }

    @Says(in = "10", words = "of a MACRO it does not count)")
    static void rowFirstBumpOfMacro(Due due) {
        MacroKeys x = rows();
        Due.row(x, 0, 1, 8, 8, 8, 6);
        due.is("macros alone", x.row(0, 1, 0, 3, 2), -9);
        due.is("the key behind them", x.row(0, 1, 0, 4, 2), 3);
    }

    @Says(in = "10", words = "how many KEYS BUMP (3; those that MACROS press, too)")
    static void rowBumps(Due due) {
        MacroKeys x = Due.with("k;p3x;b1a;e10<");
        Due.row(x, 0, 1, 6, 8, 9, 10, 0, 4);
        int[] want = {0, 1, 4, 4, 4 + 6, 10, 10};
        for (int n = 0; n <= 6; n++) {
            due.is("bumps of " + n, x.row(0, 1, 0, n, 3), want[n]);
        }
        x.sheet(0, 1, 20);
        due.is("15 of 20 a", x.row(0, 1, 0, 20, 3), 15);
        MacroKeys most = Due.with("k;e3hhhh;e30000;e31111");
        Due.row(most, 0, 0, 10, 10, 10, 10, 10, 10, 10, 10, 10, 10, 10, 10, 10, 10, 10, 10, 10, 10, 10, 10);
        due.is("most", most.row(0, 0, 0, 20, 3), 20 * 13824);
    }

    @Says(in = "10", words = "the letters then, as digits one behind another (4; a 1, b 2, c 3, d 4")
    static void rowDigits(Due due) {
        MacroKeys x = new MacroKeys();
        due.is("a", digits(x, 0), 1);
        due.is("b", digits(x, 1), 2);
        due.is("c", digits(x, 2), 3);
        due.is("d", digits(x, 3), 4);
        due.is("abcd, a behind it", digits(x, 0, 1, 2, 3, 0), 12341);
        due.is("a ahead of the cursor counts, too", digits(x, 0, 1, 7), 12);
        due.is("most", digits(x, 3, 3, 3, 3, 3, 3), 44444);
    }

    @Says(in = "10", words = "0: none)")
    static void rowDigitsOfNone(Due due) {
        MacroKeys x = new MacroKeys();
        due.is("no keys", digits(x), 0);
        due.is("a x", digits(x, 0, 6), 0);
        Due.type(x, "d|");
        due.is("no keys on d", digits(x), 4);
        due.is("x on d", digits(x, 6), 0);
    }

    @Says(in = "10", words = "the letter in place p then (10 and p")
    static void rowPlaces(Due due) {
        MacroKeys x = Due.typed("|ba");
        Due.row(x, 0, 0, 3, 2, 1);
        int[] want = {3, 2, 1, 1, 0};
        for (int p = 0; p < 5; p++) {
            due.is("place " + p, x.row(0, 0, 0, 3, 10 + p), want[p]);
        }
    }

    @Says(in = "10", words = "NONE: there is none)")
    static void rowNoPlace(Due due) {
        MacroKeys x = new MacroKeys();
        x.sheet(0, 0, 5);
        for (int n = 0; n <= 5; n++) {
            for (int p = 0; p < 5; p++) {
                due.is("place " + p + " of " + n, x.row(0, 0, 0, n, 10 + p), p < n ? 0 : -9);
            }
        }
    }

    @Says(in = "10", words = "UNKNOWN: SHEET")
    static void rowOfNoSheet(Due due) {
        MacroKeys x = rows();
        for (int k : Due.beyond(0, 3)) {
            due.is("sheet " + k, x.row(k, 1, 0, 1, 0), -1);
            due.is("fault()", x.fault(), 0);
        }
    }

    @Says(in = "10", words = "OUTSIDE: lane")
    static void rowOfNoLane(Due due) {
        MacroKeys x = rows();
        x.lose(3);
        for (int lane : Due.beyond(0, 2)) {
            due.is("lane " + lane, x.row(0, lane, 0, 1, 0), -2);
            due.is("of nothing", x.row(3, lane, 0, 1, 0), -2);
            due.is("fault()", x.fault(), 0);
        }
    }

    @Says(in = "10", words = "n (0 .. 20)")
    static void rowTooLong(Due due) {
        MacroKeys x = new MacroKeys();
        x.sheet(0, 0, 60);
        for (int n : Due.beyond(0, 20)) {
            due.is("n " + n, x.row(0, 0, 0, n, 0), -2);
            due.is("fault()", x.fault(), 0);
        }
        due.is("n 0", x.row(0, 0, 0, 0, 0), 0);
        due.is("n 20", x.row(0, 0, 0, 20, 0), 5);
        due.is("n 20, the last ones", x.row(0, 0, 40, 20, 0), 5);
    }

    @Says(in = "10", words = "what (0 .. 4, 10 .. 14)")
    static void rowWhat(Due due) {
        MacroKeys x = rows();
        for (int what : new int[] {Due.MIN, -1, 5, 6, 7, 8, 9, 15, 16, Due.MAX}) {
            due.is("what " + what, x.row(0, 1, 0, 1, what), -2);
            due.is("fault()", x.fault(), 0);
        }
        due.is("what 0", x.row(0, 1, 0, 1, 0), 2);
        due.is("what 4", x.row(0, 1, 0, 1, 4), 11);
        due.is("what 10", x.row(0, 1, 0, 1, 10), 0);
        due.is("what 14", x.row(0, 1, 0, 1, 14), -9);
    }

    @Says(in = "10", words = "FAULTS CAST")
    static void rowCast(Due due) {
        MacroKeys x = rows();
        int[] lanes = {1, 0, 2};
        for (int k = 0; k < 3; k++) {
            for (int lane = 0; lane < 3; lane++) {
                due.is("sheet " + k + " as " + lane, x.row(k, lane, 0, 1, 0), lane == lanes[k] ? 2 : -12);
                due.is("fault()", x.fault(), lane == lanes[k] ? 0 : 2);
            }
        }
    }

    @Says(in = "10", words = ", NULL")
    static void rowNull(Due due) {
        MacroKeys x = rows();
        x.lose(0);
        for (int lane = 0; lane < 3; lane++) {
            due.fails(x, "nothing as " + lane, x.row(0, lane, 0, 0, 0), 1);
        }
    }

    @Says(in = "10", words = ", INDEX")
    static void rowIndex(Due due) {
        MacroKeys x = rows();
        due.fails(x, "one too many", x.row(0, 1, 0, 8, 0), 3);
        due.fails(x, "one too many from 6 on", x.row(0, 1, 6, 2, 0), 3);
        due.fails(x, "ahead of all", x.row(0, 1, -1, 1, 0), 3);
        due.fails(x, "behind all", x.row(0, 1, 7, 1, 0), 3);
        due.fails(x, "none, beyond", x.row(0, 1, 8, 0, 0), 3);
        due.fails(x, "none, ahead", x.row(0, 1, -1, 0, 0), 3);
        due.fails(x, "far", x.row(0, 1, Due.MAX, 20, 0), 3);
        due.fails(x, "far", x.row(0, 1, Due.MIN, 20, 0), 3);
        due.is("just all", x.row(0, 1, 0, 7, 0), 5);
    }

    @Says(in = "10", words = "OUTSIDE: a cell is not 0 .. 10")
    static void rowCells(Due due) {
        MacroKeys x = Due.with("k;p1a;p1b;p1c");
        for (int cell : Due.beyond(0, 10)) {
            Due.row(x, 0, 2, 0, 10, cell);
            due.is("cell " + cell, x.row(0, 2, 0, 3, 0), -2);
            due.is("fault()", x.fault(), 0);
            due.is("it is not taken", x.row(0, 2, 0, 2, 0), 2);
        }
        Due.row(x, 0, 2, 0, 11, 10);
        due.is("it is not taken", x.row(0, 2, 2, 1, 4), 3);
        MacroKeys none = new MacroKeys();
        Due.row(none, 0, 2, 10, 11);
        due.is("ahead of a macro that there is not", none.row(0, 2, 0, 2, 0), -2);
    }

    @Says(in = "10", words = "UNKNOWN: there is no such MACRO")
    static void rowNoMacro(Due due) {
        String[] texts = {"k;p1a", "k;p1a;p1b", "k;p1a;p1b;p1c"};
        for (int many = 0; many <= 3; many++) {
            MacroKeys x = many == 0 ? new MacroKeys() : Due.with(texts[many - 1]);
            for (int m = 0; m < 3; m++) {
                Due.row(x, 0, 0, 7, 8 + m);
                due.is("macro " + m + " of " + many, x.row(0, 0, 0, 2, 0), m < many ? 1 : -1);
                due.is("fault()", x.fault(), 0);
                due.is("it is not taken", x.row(0, 0, 0, 1, 0), 0);
            }
        }
    }
}
