/** The promises of the document, one by one: ordinary inputs, the edges it names, wrong inputs. */
public final class PromisesTest {
    private static final int MIN = Due.MIN, MAX = Due.MAX;
    private static final String THREE = "k;p2ab;b1x0;e1<1h";
    private static final Due due = new Due();

    public static void main(String[] args) {
        newObject();
        macros();
        macrosRefused();
        macrosMakeAnew();
        ofMacro();
        key();
        times();
        press();
        play();
        letter();
        clear();
        row();
        rowRefused();
        fewest();
        fewestRefused();
        again();
        like();
        still();
        come();
        reading();
        back();
        timings();
        kinds();
        odds();
        sheet();
        lose();
        put();
        cell();
        copy();
        tell();
        click();
        as();
        trace();
        fault();
        many();
        due.end();
    }

    private static void newObject() {
        due.part("1 new object");
        MacroKeys x = new MacroKeys();
        for (int what = 0; what < 5; what++) {
            due.is("many(" + what + ")", x.many(what), 0);
        }
        for (int k = 0; k < 4; k++) {
            due.is("lose", x.lose(k), 0);
        }
        due.is("trace", x.trace(), 0);
        due.is("fault", x.fault(), 0);
        due.is("UNKNOWN", MacroKeys.UNKNOWN, -1);
        due.is("OUTSIDE", MacroKeys.OUTSIDE, -2);
        due.is("STATE", MacroKeys.STATE, -3);
        due.is("FULL", MacroKeys.FULL, -4);
        due.is("NONE", MacroKeys.NONE, -9);
        due.is("LOST", MacroKeys.LOST, Long.MIN_VALUE);
    }

    private static void macros() {
        due.part("2 macros");
        MacroKeys x = new MacroKeys();
        String[] good = {"k;p1a", "k;b2bcd<", "k;e3>xha", "k;p1a;p1b", "k;p1a;b20", "k;p1a;b20000",
            "k;p1a;b20;e301ab", "k;p1abcd;p1<>xh;p10101"};
        int[] counts = {1, 1, 1, 2, 2, 2, 3, 3};
        for (int t = 0; t < good.length; t++) {
            due.is(good[t], Due.text(x, good[t]), counts[t]);
        }
        // Behind the text: the place of its first fault.
        String[] bad = {"", "k", "k;", "k;p", "k;p1", "k;p1a;", "k;p1a;p", "k;p1a;p1b;e3",
            "p;p1a", "K", "kp", "kk", "k;;", "k;a1a", "k;p0a", "k;p4a", "k;pa", "k;p1;", "k;p1k", "k;p1e",
            "k;p1p", "k;p10", "k;p1a0", "k;p1a;p11", "k;p1a;p102", "k;p1a;p1b;p12", "k;p1abcda", "k;p1abcdk",
            "k;p1a;p1b;p1c;", "k;p1a;p1b;p1c;p1d", "k;p1a;p1b;p1abcd;", "k;p1a;b1abcdx", "k;p1a9", "k;p1a ",
            "k;p1a;;", "k;e3>xhab", "k;b2/"};
        int[] places = {0, 1, 2, 3, 4, 6, 7, 12,
            0, 0, 1, 1, 2, 2, 3, 3, 3, 4, 4, 4,
            4, 4, 5, 8, 9, 12, 8, 8,
            13, 13, 16, 12, 5, 5,
            6, 8, 4};
        for (int t = 0; t < bad.length; t++) {
            x = Due.with("k;p1a;p1b;p1c");
            due.is(bad[t], Due.text(x, bad[t]), -100 - places[t]);
            due.is("no machine's fault", x.fault(), 0);
            due.is("as before", x.many(0), 3);
        }
        Due.row(x, 1, 2, 7, 7, 'k', ';', 'p', '3', 'd', 7);
        due.is("from 2 on", x.macros(1, 2, 2, 5), 1);
        due.is("its key", x.key(0, 0), 3);
        due.is("a place of the text, not of the sheet", x.macros(1, 2, 2, 6), -105);
        due.is("none taken at the end", x.macros(1, 2, 8, 0), -100);
        Due.row(x, 1, 1, 'k', ';' + 256, 'p', '1', 'a');
        due.is("a short is not cut to a byte", x.macros(1, 1, 0, 5), -101);
        Due.row(x, 1, 0, 'k', ';' + 256, 'p', '1', 'a');
        due.is("a byte is", x.macros(1, 0, 0, 5), 1);
    }

    private static void macrosRefused() {
        due.part("2 macros, refused");
        MacroKeys x = new MacroKeys();
        Due.row(x, 0, 1, 'k', ';', 'p', '1', 'a');
        for (int sheet : new int[] {-1, 4, MIN, MAX}) {
            due.is("no sheet", x.macros(sheet, 9, -1, -1), -1);
        }
        for (int lane : new int[] {-1, 3, MIN, MAX}) {
            due.is("no lane", x.macros(0, lane, -1, -1), -2);
            due.is("no lane, nothing there", x.macros(1, lane, 0, 0), -2);
        }
        due.fails(x, "another lane, ahead of size", x.macros(0, 0, 0, -1), 2);
        due.fails(x, "nothing is no cast", x.macros(1, 0, 0, -1), 1);
        due.fails(x, "size, ahead of index", x.macros(0, 1, -1, -1), 4);
        due.fails(x, "size", x.macros(0, 1, 0, MIN), 4);
        due.fails(x, "too many", x.macros(0, 1, 0, 6), 3);
        due.fails(x, "too many from 1 on", x.macros(0, 1, 1, 5), 3);
        due.fails(x, "none from 6 on", x.macros(0, 1, 6, 0), 3);
        due.fails(x, "none from -1 on", x.macros(0, 1, -1, 0), 3);
        due.fails(x, "wide", x.macros(0, 1, MAX, MAX), 3);
        due.fails(x, "wide n", x.macros(0, 1, 0, MAX), 3);
        due.is("taken", x.macros(0, 1, 0, 5), 1);
        due.is("its fault", x.fault(), 0);
    }

    private static void macrosMakeAnew() {
        due.part("2 macros, anew");
        MacroKeys x = Due.with(THREE);
        x.press(0);
        x.reading(0, 1);
        x.times(0, 3);
        x.tell(0);
        due.is("a bad text", Due.text(x, "k;p1"), -104);
        due.is("letters stay", x.many(1), 1);
        due.is("pressed stays", x.many(3), 1);
        due.is("readings stay", x.many(4), 1);
        due.is("times stays", x.ofMacro(0, 1), 3);
        due.is("a good text", Due.text(x, "k;p1c"), 1);
        due.is("macros", x.many(0), 1);
        due.line(x, "|");
        due.is("pressed", x.many(3), 0);
        due.is("readings", x.many(4), 0);
        due.is("trace goes on", x.trace(), 1);
        due.is("the sheet stays", x.cell(3, 0, 0), 'k');
        due.is("no second macro", x.play(1), -1);
        due.is("the new one plays", x.play(0), 0);
        due.line(x, "c|");
    }

    private static void ofMacro() {
        due.part("3 ofMacro");
        MacroKeys x = Due.with("k;p3abcd;b3x000;e31101");
        int[][] want = {{0, 3, 3, 4, 12}, {1, 3, 4, 4, 148}, {2, 3, 6, 4, 6 * (148 * 3 + 12)}};
        for (int m = 0; m < 3; m++) {
            for (int what = 0; what < 5; what++) {
                due.is("ofMacro(" + m + ", " + what + ")", x.ofMacro(m, what), want[m][what]);
            }
        }
        Due.text(x, "k;e3abcd;e30000;e31111");
        due.is("most of all", x.ofMacro(2, 4), 24 * 24 * 24);
        due.is("often of an even one of 3", x.ofMacro(0, 2), 6);
        for (int what : new int[] {-1, 5, MIN, MAX}) {
            due.is("what", x.ofMacro(0, what), -2);
            due.is("unknown first", x.ofMacro(3, what), -1);
            due.is("unknown first", x.ofMacro(-1, what), -1);
        }
        Due.text(x, "k;p1a");
        due.is("not any more", x.ofMacro(1, 0), -1);
    }

    private static void key() {
        due.part("4 key");
        MacroKeys x = Due.with("k;p1abcd;b1<>xh;e2010a");
        int[][] want = {{0, 1, 2, 3}, {4, 5, 6, 7}, {8, 9, 8, 0}};
        for (int m = 0; m < 3; m++) {
            for (int i = 0; i < 4; i++) {
                due.is("key(" + m + ", " + i + ")", x.key(m, i), want[m][i]);
            }
            due.is("no such key", x.key(m, 4), -1);
            due.is("no such key", x.key(m, -1), -1);
            due.is("no such key", x.key(m, MAX), -1);
        }
        due.is("no such macro", x.key(3, 0), -1);
        due.is("no such macro", x.key(MIN, 0), -1);
        Due.text(x, "k;p1d");
        due.is("fewer keys now", x.key(0, 1), -1);
    }

    private static void times() {
        due.part("5 times");
        MacroKeys x = Due.with("k;p2a;b10");
        due.is("what it was", x.times(0, 3), 2);
        due.is("what it was", x.times(0, 1), 3);
        for (int v : new int[] {0, 4, -1, MIN, MAX}) {
            due.is("outside", x.times(0, v), -2);
            due.is("unknown first", x.times(2, v), -1);
        }
        due.is("as it was left", x.ofMacro(0, 1), 1);
        due.is("played", x.play(1), 0);
        due.line(x, "aa|");
        x.times(0, 2);
        x.clear();
        due.is("played", x.play(1), 0);
        due.line(x, "aaaa|");
        x.times(1, 2);
        x.clear();
        due.is("played", x.play(1), 1);
        due.line(x, "aaaaa|");
    }

    private static void press() {
        due.part("6 press");
        MacroKeys x = new MacroKeys();
        pressed(x, 4, 0, "|");
        pressed(x, 5, 0, "|");
        pressed(x, 6, 0, "|");
        pressed(x, 7, 0, "|");
        pressed(x, 0, 1, "a|");
        pressed(x, 1, 1, "ab|");
        pressed(x, 5, 0, "ab|");
        pressed(x, 4, 1, "a|b");
        pressed(x, 2, 1, "ac|b");
        pressed(x, 7, 1, "|acb");
        pressed(x, 7, 0, "|acb");
        pressed(x, 4, 0, "|acb");
        pressed(x, 6, 0, "|acb");
        pressed(x, 3, 1, "d|acb");
        pressed(x, 5, 1, "da|cb");
        pressed(x, 6, 1, "d|cb");
        pressed(x, 0, 1, "da|cb");
        pressed(x, 0, 1, "daa|cb");
        for (int letter = 0; letter < 4; letter++) {
            pressed(x, letter, 0, "daa|cb");
        }
        pressed(x, 5, 1, "daac|b");
        pressed(x, 5, 1, "daacb|");
        pressed(x, 5, 0, "daacb|");
        pressed(x, 6, 1, "daac|");
        for (int key : new int[] {-1, 8, 9, 10, MIN, MAX}) {
            pressed(x, key, -2, "daac|");
        }
    }

    private static void pressed(MacroKeys x, int key, int want, String line) {
        int before = x.many(3);
        due.is("press(" + key + ")", x.press(key), want);
        due.line(x, line);
        due.is("pressed, too, if it bumps", x.many(3), before + (want < 0 ? 0 : 1));
    }

    private static void play() {
        due.part("7 play");
        MacroKeys x = Due.with("k;p2ab<;b1x0;e201h");
        due.is("play(0)", x.play(0), 0);
        due.line(x, "aa|bb");
        due.is("play(0)", x.play(0), 2 + 1);
        due.line(x, "a|aabb");
        due.is("a macro is one key", x.many(3), 2);
        x.clear();
        // x bumps, then aa|bb; x, then ab< with room for both letters, ab< with room for none.
        due.is("play(1)", x.play(1), 1 + 2);
        due.line(x, "a|abbb");
        due.is("play(3)", x.play(3), -1);
        due.is("play(-1)", x.play(-1), -1);
        due.is("play(MAX)", x.play(MAX), -1);
        due.is("refused: not pressed", x.many(3), 3);
        MacroKeys most = Due.with("k;e3xxxx;e30000;e31111");
        due.is("all bump", most.play(2), 24 * 24 * 24);
        due.line(most, "|");
    }

    private static void letter() {
        due.part("8 letter");
        MacroKeys x = Due.with("k;p1dcba");
        due.is("letter(0) of none", x.letter(0), -1);
        x.play(0);
        x.press(7);
        x.press(2);
        int[] want = {2, 3, 2, 1, 0};
        for (int i = 0; i < 5; i++) {
            due.is("letter(" + i + ")", x.letter(i), want[i]);
        }
        due.is("letter(5)", x.letter(5), -1);
        due.is("letter(-1)", x.letter(-1), -1);
        due.is("letter(MIN)", x.letter(MIN), -1);
        due.is("letter(MAX)", x.letter(MAX), -1);
    }

    private static void clear() {
        due.part("9 clear");
        MacroKeys x = Due.with(THREE);
        due.is("clear", x.clear(), 0);
        x.play(0);
        x.press(3);
        x.reading(0, 2);
        due.is("clear", x.clear(), 5);
        due.line(x, "|");
        due.is("pressed stays", x.many(3), 2);
        due.is("readings stay", x.many(4), 1);
        due.is("macros stay", x.many(0), 3);
    }

    private static void row() {
        due.part("10 row");
        MacroKeys x = Due.with("k;p2ab;b1x0;e1<1h");
        x.press(2);
        told(x, new int[] {}, 1, 1, -9, 0, 3);
        told(x, new int[] {6, 6, 3, 0}, 2, 2, 1, 1, 41);
        told(x, new int[] {8, 0, 4, 6}, 4, 3, 1, 1, 3122);
        told(x, new int[] {10}, 5, 0, -9, 16, 12113);
        told(x, new int[] {8, 8, 9, 4, 2}, 5, 4, 4, 11, 31211);
        told(x, new int[] {5, 7, 7, 6, 5, 5}, 1, 1, 0, 4, 3);
        due.line(x, "c|");
        due.is("nothing is pressed", x.many(3), 1);
        Due.row(x, 1, 0, 9, 9, 0, 1, 2, 3, 9, 9);
        due.is("from 2 on", x.row(1, 0, 2, 4, 4), 31234);
        due.is("a place", x.row(1, 0, 2, 4, 14), 3);
        due.is("a place", x.row(1, 0, 2, 3, 14), -9);
        due.is("a place", x.row(1, 0, 2, 3, 10), 2);
        due.is("none at the end", x.row(1, 0, 8, 0, 0), 1);
        x.sheet(1, 1, 20);
        due.is("20 keys", x.row(1, 1, 0, 20, 3), 16);
        due.is("20 keys", x.row(1, 1, 0, 20, 2), 4);
    }

    private static void told(MacroKeys x, int[] keys, int... want) {
        Due.row(x, 1, 2, keys);
        for (int what = 0; what < 5; what++) {
            due.is("row " + java.util.Arrays.toString(keys) + " what " + what,
                x.row(1, 2, 0, keys.length, what), want[what]);
        }
        String digits = want[4] == 0 ? "" : "" + want[4];
        for (int p = 0; p < 5; p++) {
            due.is("row, place " + p, x.row(1, 2, 0, keys.length, 10 + p),
                p < digits.length() ? digits.charAt(p) - '1' : -9);
        }
    }

    private static void rowRefused() {
        due.part("10 row, refused");
        MacroKeys x = Due.with("k;p2ab;b1x0");
        Due.row(x, 0, 1, 0, 1, 2);
        due.is("sheet", x.row(4, 9, 0, 99, 99), -1);
        due.is("sheet", x.row(-1, 9, 0, 99, 99), -1);
        for (int what : new int[] {-1, 5, 9, 15, MIN, MAX}) {
            due.is("what", x.row(0, 1, 0, 1, what), -2);
        }
        for (int n : new int[] {-1, 21, MIN, MAX}) {
            due.is("n", x.row(0, 1, 0, n, 0), -2);
            due.is("n, nothing there", x.row(2, 1, 0, n, 0), -2);
            due.is("no fault", x.fault(), 0);
        }
        due.is("lane", x.row(0, 3, 0, 1, 0), -2);
        due.is("lane", x.row(0, -1, 0, 1, 0), -2);
        due.fails(x, "cast, ahead of index", x.row(0, 2, -1, 1, 0), 2);
        due.fails(x, "nothing", x.row(2, 1, -1, 1, 0), 1);
        due.fails(x, "index", x.row(0, 1, 1, 3, 0), 3);
        due.fails(x, "index", x.row(0, 1, -1, 1, 0), 3);
        due.fails(x, "index of none", x.row(0, 1, 4, 0, 0), 3);
        due.fails(x, "index", x.row(0, 1, MAX, 20, 0), 3);
        Due.row(x, 0, 1, 10, 11, 9);
        due.is("outside is ahead of unknown", x.row(0, 1, 0, 2, 0), -2);
        due.is("unknown", x.row(0, 1, 0, 1, 0), -1);
        due.is("its fault", x.fault(), 0);
        due.is("known", x.row(0, 1, 2, 1, 0), 5);
        due.is("below 0", x.put(0, 2, -1), 1);
        due.is("outside", x.row(0, 1, 2, 1, 0), -2);
        MacroKeys none = new MacroKeys();
        Due.row(none, 0, 2, 8);
        due.is("no macros", none.row(0, 2, 0, 1, 0), -1);
    }

    private static void fewest() {
        due.part("11 fewest");
        MacroKeys x = Due.with("k;p2ab;p1c");
        way(x, "abab", 8);
        way(x, "ababa", 8, 0);
        way(x, "dabab", 3, 8);
        way(x, "cd", 2, 3);
        way(x, "ababc", 8, 2);
        way(x, "", new int[] {});
        way(x, "a", 0);
        way(x, "aa", 0, 0);
        way(x, "c", 2);
        way(x, "ba", 1, 0);
        due.part("11 fewest, from a line");
        x.play(0);
        x.press(7);
        due.line(x, "|abab");
        way(x, "abab", new int[] {});
        way(x, "", 5, 5, 5, 5, 6, 6, 6, 6);
        way(x, "dabab", 3);
        due.line(x, "|abab");
        due.is("nothing is pressed", x.many(3), 2);
        MacroKeys plain = new MacroKeys();
        for (int letter = 0; letter < 4; letter++) {
            plain.press(letter);
        }
        plain.press(0);
        plain.press(7);
        due.part("11 fewest, without macros");
        way(plain, "aaaaa", 5, 5, 5, 5, 6, 6, 6, 0, 0, 0);
    }

    private static void way(MacroKeys x, String letters, int... keys) {
        int[] cells = letters.chars().map(c -> c - 'a').toArray();
        Due.row(x, 1, 2, cells);
        int n = x.fewest(1, 2, 0, cells.length, -1);
        StringBuilder got = new StringBuilder();
        for (int k = 0; k <= 20; k++) {
            got.append(' ').append(x.fewest(1, 2, 0, cells.length, k));
        }
        StringBuilder want = new StringBuilder();
        for (int k = 0; k <= 20; k++) {
            want.append(' ').append(k < keys.length ? keys[k] : -9);
        }
        due.is("fewest to " + letters, n, keys.length);
        due.is("fewest to " + letters + ":" + got + ", due:" + want, got.toString().equals(want.toString()) ? 1 : 0, 1);
    }

    private static void fewestRefused() {
        due.part("11 fewest, refused");
        MacroKeys x = new MacroKeys();
        Due.row(x, 0, 0, 1, 2, 3, 4, 0, 0);
        due.is("sheet", x.fewest(4, 9, 0, 9, 99), -1);
        due.is("sheet", x.fewest(-1, 9, 0, 9, 99), -1);
        due.is("lane", x.fewest(0, 3, 0, 1, 0), -2);
        due.is("lane", x.fewest(0, -1, 0, 1, 0), -2);
        for (int n : new int[] {-1, 6, MIN, MAX}) {
            due.is("n", x.fewest(0, 0, 0, n, 0), -2);
        }
        for (int k : new int[] {-2, 21, MIN, MAX}) {
            due.is("k", x.fewest(0, 0, 0, 1, k), -2);
            due.is("k, nothing there", x.fewest(1, 0, 0, 1, k), -2);
        }
        due.fails(x, "cast", x.fewest(0, 1, 9, 1, 0), 2);
        due.fails(x, "null", x.fewest(1, 1, 9, 1, 0), 1);
        due.fails(x, "index", x.fewest(0, 0, 5, 2, 0), 3);
        due.fails(x, "index of none", x.fewest(0, 0, 7, 0, 0), 3);
        due.fails(x, "index", x.fewest(0, 0, MAX, 5, 0), 3);
        due.is("a cell", x.fewest(0, 0, 2, 2, 0), -2);
        due.is("its fault", x.fault(), 0);
        x.put(0, 0, -1);
        due.is("a cell", x.fewest(0, 0, 0, 1, 0), -2);
        due.is("none of it at the end", x.fewest(0, 0, 6, 0, -1), 0);
        due.is("the rest", x.fewest(0, 0, 1, 2, -1), 2);
    }

    private static void again() {
        due.part("12 again");
        MacroKeys x = Due.with("k;p1a;b1xhd;p1>x");
        round(x, 0, 5, 1);
        due.is("taking ends", x.again(2, 0), 0);
        x.press(2);
        x.press(3);
        due.line(x, "cd|");
        due.is("again(2, 0)", x.again(2, 0), 2);
        due.is("again(2, 1)", x.again(2, 1), 1);
        due.line(x, "cd|");
        MacroKeys turn = Due.with("k;p1xhd;p1h>>>;p1hx");
        turn.press(0);
        turn.press(1);
        round(turn, 2, 1, 1);
        due.part("12 again, a round");
        MacroKeys go = Due.with("k;p1<<;p1>;p1a<x");
        go.press(1);
        go.press(2);
        go.press(4);
        due.line(go, "b|c");
        round(go, 2, 4, 1);
        due.is("what", go.again(0, 2), -2);
        due.is("what", go.again(0, -1), -2);
        due.is("unknown first", go.again(3, 2), -1);
        due.is("unknown", go.again(-1, 0), -1);
        MacroKeys longer = Due.with("k;p1xah>;p1>>>x;p101");
        longRound(longer);
    }

    private static void round(MacroKeys x, int m, int ahead, int by) {
        x.come();
        due.is("again(" + m + ", 1)", x.again(m, 1), by);
        due.is("again(" + m + ", 0)", x.again(m, 0), ahead);
        due.is("again(" + m + ", 1)", x.again(m, 1), by);
    }

    /** Playing by hand tells the same as again(). */
    private static void longRound(MacroKeys x) {
        for (int m = 0; m < 3; m++) {
            x.clear();
            x.press(1);
            x.press(2);
            x.press(3);
            x.press(4);
            int ahead = x.again(m, 0);
            int by = x.again(m, 1);
            java.util.List<String> seen = new java.util.ArrayList<>();
            while (!seen.contains(Due.line(x))) {
                seen.add(Due.line(x));
                x.play(m);
            }
            due.is("ahead of the round, " + m, ahead, seen.indexOf(Due.line(x)));
            due.is("the round, " + m, by, seen.size() - seen.indexOf(Due.line(x)));
        }
    }

    private static void like() {
        due.part("13 like");
        MacroKeys x = Due.with("k;p1a;b1<>;p1<");
        due.is("a key and itself", x.like(0, 0), 7737);
        due.is("a macro of a", x.like(8, 0), 7737);
        due.is("and of <", x.like(10, 4), 7737);
        due.is("either way", x.like(4, 10), 7737);
        due.is("a and b", x.like(0, 1), 6144);
        due.is("< and h", x.like(4, 7), 2729);
        due.is("< and >", x.like(4, 5), 1);
        due.is("x and <", x.like(6, 4), 1365);
        due.is("unknown", x.like(11, 0), -1);
        due.is("unknown", x.like(0, 11), -1);
        due.is("unknown", x.like(-1, 0), -1);
        due.is("unknown", x.like(0, MAX), -1);
        Due.text(x, "k;p2a");
        due.is("not any more", x.like(0, 9), -1);
        due.is("anew: where one letter fits, too", x.like(8, 0), 6144 + 1280);
        x.times(0, 1);
        due.is("by times", x.like(8, 0), 7737);
    }

    private static void still() {
        due.part("14 still");
        MacroKeys x = Due.with("k;p1a;p1<>;p11x");
        for (int key = 0; key < 4; key++) {
            due.is("a letter", x.still(key), 6144);
        }
        for (int key = 4; key < 8; key++) {
            due.is("another", x.still(key), 1365);
        }
        due.is("a", x.still(8), 6144);
        due.is("<>: but where < bumps and > does not", x.still(9), 7737 - 1364);
        due.is("unknown", x.still(11), -1);
        due.is("unknown", x.still(-1), -1);
        due.is("unknown", x.still(MIN), -1);
        x.times(0, 3);
        due.is("aaa", x.still(8), 6144);
        MacroKeys none = new MacroKeys();
        due.is("no macros", none.still(8), -1);
        due.is("no macros", none.still(7), 1365);
    }

    private static void come() {
        due.part("15 come");
        MacroKeys x = new MacroKeys();
        due.is("no macros", x.come(), 1);
        x.press(0);
        due.is("no macros", x.come(), 1);
        Due.text(x, "k;p1a");
        due.is("a", x.come(), 6);
        x.press(2);
        due.is("a behind c", x.come(), 5);
        Due.text(x, "k;p1a;p1b");
        due.is("a and b", x.come(), 63);
        Due.text(x, "k;p1a;p1x");
        due.is("a and x", x.come(), 6);
        Due.text(x, "k;p1a;p1<");
        due.is("a and <", x.come(), 21);
        due.line(x, "|");
        Due.text(x, "k;p3a;p1x");
        due.is("aaa and x", x.come(), 6);
        x.times(1, 3);
        due.is("aaa and xxx: 0, 3, 5, 2 letters", x.come(), 4);
    }

    private static void reading() {
        due.part("16 reading");
        MacroKeys x = Due.with(THREE);
        due.is("unknown first", x.reading(3, 6), -1);
        due.is("unknown first", x.reading(-1, -1), -1);
        for (int letters : new int[] {-1, 6, MIN, MAX}) {
            due.is("letters", x.reading(0, letters), -2);
        }
        for (int r = 0; r < 8; r++) {
            due.is("its number", x.reading(r % 3, r % 6), r);
        }
        due.is("full", x.reading(0, 0), -4);
        due.is("outside, ahead of full", x.reading(0, 6), -2);
        due.is("unknown, ahead of full", x.reading(3, 0), -1);
        due.is("how many", x.many(4), 8);
        due.is("no macros", new MacroKeys().reading(0, 0), -1);
    }

    private static void back() {
        due.part("17 back");
        MacroKeys x = Due.with("k;p2a");
        due.is("none", x.back(0), 0);
        due.is("too many", x.back(1), -2);
        x.reading(0, 2);
        x.reading(0, 1);
        x.reading(0, 3);
        due.is("below 0", x.back(-1), -2);
        due.is("below 0", x.back(MIN), -2);
        due.is("too many", x.back(4), -2);
        due.is("none", x.back(0), 3);
        due.is("the last two", x.back(2), 1);
        due.is("the first one counts", x.timings(0), 4);
        due.is("its number", x.reading(0, 2), 1);
        due.is("all", x.back(2), 0);
        due.is("none is left", x.timings(0), 14);
    }

    private static void timings() {
        due.part("18 timings");
        MacroKeys x = Due.with("k;p2a;p10;b1b");
        due.is("no readings", x.timings(0), 14);
        x.reading(1, 3);
        due.is("of 0, by what 1 leaves", x.timings(0), 8);
        due.is("of 1: 2, 4, 5", x.timings(1), 0);
        due.is("of 2: it has no part", x.timings(2), 0);
        x.back(1);
        x.reading(1, 2);
        due.is("of 0", x.timings(0), 4);
        due.is("of 1", x.timings(1), 2);
        due.is("of 2", x.timings(2), 14);
        x.reading(2, 3);
        due.is("of 2, broad", x.timings(2), 4);
        due.is("of 0: 2 is not so", x.timings(0), 0);
        due.is("as it was", x.ofMacro(0, 1), 2);
        due.is("as it was", x.ofMacro(2, 1), 1);
        due.is("plays as it did", x.play(1), 0);
        due.line(x, "aa|");
        x.back(2);
        x.reading(0, 5);
        due.is("none", x.timings(0), 0);
        x.press(3);
        due.is("the line has no part", x.timings(0), 0);
        due.is("unknown", x.timings(3), -1);
        due.is("unknown", x.timings(-1), -1);
        Due.text(x, "k;e1a");
        x.reading(0, 4);
        due.is("an even one", x.timings(0), 4);
    }

    private static void kinds() {
        due.part("19 kinds");
        MacroKeys x = Due.with("k;p1a;p10;e2b");
        due.is("no readings", x.kinds(0), 7);
        x.reading(1, 2);
        due.is("of 0: broad or even of 1", x.kinds(0), 6);
        due.is("of 1", x.kinds(1), 6);
        due.is("of 2: it has no part", x.kinds(2), 0);
        x.back(1);
        x.reading(2, 4);
        due.is("even", x.kinds(2), 4);
        x.times(2, 3);
        due.is("3, 4, 6 for five letters", x.kinds(2), 2);
        due.is("as it was", x.ofMacro(2, 0), 2);
        due.is("as it was", x.ofMacro(2, 2), 6);
        due.is("it plays as it did", x.play(2), 1);
        due.is("unknown", x.kinds(3), -1);
        due.is("unknown", x.kinds(MIN), -1);
    }

    private static void odds() {
        due.part("20 odds");
        MacroKeys x = new MacroKeys();
        long[][] empty = {{1, 1}, {1, 2}, {5, 16}, {25, 128}, {131, 1024}};
        for (int n = 0; n < 5; n++) {
            due.is("upper, " + n, x.odds(n, 0), empty[n][0]);
            due.is("lower, " + n, x.odds(n, 1), empty[n][1]);
        }
        x.press(0);
        due.is("one letter, none pressed", x.odds(0, 0), 0);
        due.is("one letter, none pressed", x.odds(0, 1), 1);
        due.is("x", x.odds(1, 0), 1);
        due.is("x", x.odds(1, 1), 8);
        x.press(4);
        due.is("> x", x.odds(2, 0), 1);
        due.is("> x", x.odds(2, 1), 64);
        x.press(0);
        x.press(0);
        x.press(0);
        x.press(0);
        due.line(x, "aaaa|a");
        due.is("never", x.odds(4, 0), 0);
        due.is("never", x.odds(4, 1), 1);
        for (int bad : new int[] {-1, 5, MIN, MAX}) {
            due.is("n", x.odds(bad, 0), Long.MIN_VALUE);
        }
        for (int bad : new int[] {-1, 2, MIN, MAX}) {
            due.is("which", x.odds(0, bad), Long.MIN_VALUE);
        }
        x.put(9, 0, 0);
        due.fails(x, "a fault", x.put(0, 0, 0), 1);
        x.odds(9, 9);
        due.is("it names no faults", x.fault(), 1);
    }

    private static void sheet() {
        due.part("21 sheet");
        MacroKeys x = new MacroKeys();
        for (int k = 0; k < 4; k++) {
            due.is("sheet " + k, x.sheet(k, k % 3, 60), 1);
            due.is("0 at first", x.cell(k, 59, k % 3), 0);
        }
        x.put(0, 3, 9);
        due.is("anew", x.sheet(0, 0, 4), 1);
        due.is("0 again", x.cell(0, 3, 0), 0);
        due.is("shorter", x.cell(0, 4, 0), Long.MIN_VALUE);
        due.is("of none", x.sheet(0, 2, 0), 1);
        due.is("has none", x.put(0, 0, 1), -13);
        due.is("but is something", x.lose(0), 1);
        x.sheet(0, 1, 3);
        due.is("unknown", x.sheet(-1, 9, -1), -1);
        due.is("unknown", x.sheet(4, 9, -1), -1);
        due.is("lane", x.sheet(0, 3, -1), -2);
        due.is("lane", x.sheet(0, -1, 1), -2);
        due.is("no fault", x.fault(), 0);
        due.is("above 60", x.sheet(0, 0, 61), -2);
        due.is("above 60", x.sheet(0, 0, MAX), -2);
        due.fails(x, "below 0", x.sheet(0, 0, -1), 4);
        due.fails(x, "below 0", x.sheet(0, 0, MIN), 4);
        due.is("as before", x.cell(0, 2, 1), 0);
    }

    private static void lose() {
        due.part("22 lose");
        MacroKeys x = new MacroKeys();
        due.is("nothing", x.lose(0), 0);
        x.sheet(0, 0, 0);
        due.is("a row of none", x.lose(0), 1);
        due.is("nothing", x.lose(0), 0);
        due.fails(x, "it has nothing", x.put(0, 0, 1), 1);
        due.is("unknown", x.lose(4), -1);
        due.is("unknown", x.lose(-1), -1);
        x.lose(1);
        due.is("it names no faults", x.fault(), 1);
    }

    private static void put() {
        due.part("23 put");
        MacroKeys x = new MacroKeys();
        int[] values = {127, 128, 255, 256, -129, 32767, 32768, 65536 + 7, MIN, MAX};
        for (int lane = 0; lane < 3; lane++) {
            x.sheet(lane, lane, 10);
            for (int i = 0; i < 10; i++) {
                due.is("put", x.put(lane, i, values[i]), 1);
                int cut = lane == 0 ? (byte) values[i] : lane == 1 ? (short) values[i] : values[i];
                due.is("cell, lane " + lane, x.cell(lane, i, lane), cut);
            }
        }
        due.is("unknown", x.put(4, 0, 0), -1);
        due.is("unknown", x.put(-1, 0, 0), -1);
        due.fails(x, "null, ahead of index", x.put(3, -1, 0), 1);
        due.fails(x, "index", x.put(0, -1, 0), 3);
        due.fails(x, "index", x.put(0, 10, 0), 3);
        due.fails(x, "index", x.put(0, MAX, 0), 3);
        due.fails(x, "index", x.put(0, MIN, 0), 3);
        due.is("put", x.put(0, 0, 0), 1);
        due.is("no fault", x.fault(), 0);
    }

    private static void cell() {
        due.part("24 cell");
        MacroKeys x = new MacroKeys();
        Due.row(x, 0, 1, 5, -6);
        due.is("cell", x.cell(0, 1, 1), -6);
        due.loses(x, "unknown", x.cell(4, 0, 9), 0);
        due.loses(x, "unknown", x.cell(-1, 0, 1), 0);
        due.loses(x, "lane", x.cell(0, 0, 3), 0);
        due.loses(x, "lane, nothing there", x.cell(1, 0, -1), 0);
        due.loses(x, "cast, ahead of index", x.cell(0, 9, 2), 2);
        due.loses(x, "nothing is no cast", x.cell(1, 9, 0), 1);
        due.loses(x, "index", x.cell(0, 2, 1), 3);
        due.loses(x, "index", x.cell(0, -1, 1), 3);
        due.loses(x, "index", x.cell(0, MAX, 1), 3);
        due.is("cell", x.cell(0, 0, 1), 5);
        due.is("no fault", x.fault(), 0);
    }

    private static void copy() {
        due.part("25 copy");
        MacroKeys x = new MacroKeys();
        Due.row(x, 0, 2, 1, 2, 3, 4, 5);
        Due.row(x, 1, 2, 9, 9, 9);
        Due.row(x, 2, 1, 9, 9, 9);
        due.is("copy", x.copy(0, 1, 1, 0, 2), 2);
        cells(x, 1, 2, 2, 3, 9);
        due.is("on itself, on", x.copy(0, 0, 0, 1, 4), 4);
        cells(x, 0, 2, 1, 1, 2, 3, 4);
        due.is("on itself, back", x.copy(0, 1, 0, 0, 4), 4);
        cells(x, 0, 2, 1, 2, 3, 4, 4);
        due.is("none at the ends", x.copy(0, 5, 1, 3, 0), 0);
        due.is("no fault", x.fault(), 0);
        due.is("unknown", x.copy(4, 0, 0, 0, 0), -1);
        due.is("unknown", x.copy(0, 0, -1, 0, 0), -1);
        due.is("unknown, ahead of null", x.copy(3, 0, 4, 0, 0), -1);
        due.fails(x, "null, the first", x.copy(3, 9, 0, 0, 1), 1);
        due.fails(x, "null, the other", x.copy(0, 9, 3, 0, 1), 1);
        due.fails(x, "cast, ahead of index", x.copy(0, 9, 2, 0, 1), 2);
        due.fails(x, "i", x.copy(0, -1, 1, 0, 1), 3);
        due.fails(x, "i", x.copy(0, 4, 1, 0, 2), 3);
        due.fails(x, "i of none", x.copy(0, 6, 1, 0, 0), 3);
        due.fails(x, "j", x.copy(0, 0, 1, -1, 1), 3);
        due.fails(x, "j", x.copy(0, 0, 1, 2, 2), 3);
        due.fails(x, "j of none", x.copy(0, 0, 1, 4, 0), 3);
        due.fails(x, "n", x.copy(0, 0, 1, 0, -1), 3);
        due.fails(x, "n", x.copy(0, 0, 1, 0, MIN), 3);
        due.fails(x, "n", x.copy(0, 0, 1, 0, MAX), 3);
        due.fails(x, "wide", x.copy(0, MAX, 1, MAX, MAX), 3);
        cells(x, 1, 2, 2, 3, 9);
    }

    private static void cells(MacroKeys x, int sheet, int lane, int... want) {
        for (int i = 0; i < want.length; i++) {
            due.is("cell " + i + " of " + sheet, x.cell(sheet, i, lane), want[i]);
        }
    }

    private static void tell() {
        due.part("26 tell");
        MacroKeys x = Due.with("k;p3a;b2a;e3a");
        due.is("plain", x.tell(0), 3);
        due.is("trace 1", x.trace(), 1);
        due.is("broad", x.tell(1), 102);
        due.is("trace 1 2 1", x.trace(), (31 + 2) * 31 + 1);
        MacroKeys y = Due.with("k;e3a");
        due.is("even", y.tell(0), 106);
        due.is("trace 3 2 1 1", y.trace(), ((3 * 31 + 2) * 31 + 1) * 31 + 1);
        y.times(0, 1);
        due.is("even, of times", y.tell(0), 102);
        due.is("unknown", y.tell(1), -1);
        due.is("unknown", y.tell(-1), -1);
    }

    private static void click() {
        due.part("27 click");
        MacroKeys x = Due.with("k;p3abcd;b2ab;e3a");
        due.is("plain", x.click(0), 4);
        due.is("trace 4", x.trace(), 4);
        due.is("broad", x.click(1), 2);
        due.is("trace 4 4", x.trace(), 4 * 31 + 4);
        due.is("even", x.click(2), 90);
        due.is("trace 4 4 5", x.trace(), (4 * 31 + 4) * 31 + 5);
        due.is("unknown", x.click(3), -1);
        due.is("unknown", x.click(-1), -1);
        due.is("as it was", x.trace(), (4 * 31 + 4) * 31 + 5);
    }

    private static void as() {
        due.part("28 as");
        MacroKeys x = Due.with("k;p1a;b1a;e1a");
        for (int m = 0; m < 3; m++) {
            for (int kind = 0; kind < 3; kind++) {
                due.is("as(" + m + ", " + kind + ")", x.as(m, kind), kind <= m ? 1 : -12);
                due.is("fault()", x.fault(), kind <= m ? 0 : 2);
            }
        }
        x.as(0, 2);
        due.is("outside", x.as(0, 3), -2);
        due.is("refused", x.fault(), 0);
        due.is("outside", x.as(0, -1), -2);
        due.is("unknown first", x.as(3, 3), -1);
        due.is("unknown first", x.as(-1, 0), -1);
    }

    private static void trace() {
        due.part("29 trace");
        MacroKeys x = Due.with("k;e1a");
        due.is("0 at first", x.trace(), 0);
        int want = 0;
        for (int t = 0; t < 40; t++) {
            x.tell(0);
            x.click(0);
            want = ((((want * 31 + 3) * 31 + 2) * 31 + 1) * 31 + 1) * 31 + 5;
            due.is("it wraps", x.trace(), want);
        }
        x.play(0);
        x.as(0, 1);
        due.is("by nothing else", x.trace(), want);
    }

    private static void fault() {
        due.part("30 fault");
        MacroKeys x = Due.with(THREE);
        due.is("0", x.fault(), 0);
        // Calls that name no faults leave it; calls that do make it anew, if refused, too.
        Runnable[] leave = {() -> x.ofMacro(9, 0), () -> x.key(0, 0), () -> x.times(0, 2), () -> x.press(0),
            () -> x.play(0), () -> x.letter(0), () -> x.clear(), () -> x.again(0, 0), () -> x.like(0, 0),
            () -> x.still(0), () -> x.come(), () -> x.reading(0, 1), () -> x.back(0), () -> x.timings(0),
            () -> x.kinds(0), () -> x.odds(0, 0), () -> x.lose(2), () -> x.tell(0), () -> x.click(0),
            () -> x.trace(), () -> x.fault(), () -> x.many(9)};
        x.put(0, 0, 0);
        for (int c = 0; c < leave.length; c++) {
            leave[c].run();
            due.is("left by call " + c, x.fault(), 1);
        }
        Runnable[] renew = {() -> x.macros(9, 0, 0, 0), () -> x.macros(3, 0, 0, 0), () -> x.row(9, 0, 0, 0, 0),
            () -> x.row(3, 0, 0, 0, 0), () -> x.fewest(9, 0, 0, 0, 0), () -> x.fewest(3, 0, 0, 0, 0),
            () -> x.sheet(9, 0, 0), () -> x.sheet(2, 0, 1), () -> x.put(9, 0, 0), () -> x.put(2, 0, 0),
            () -> x.cell(9, 0, 0), () -> x.cell(2, 0, 0), () -> x.cell(2, 0, 7), () -> x.copy(9, 0, 0, 0, 0),
            () -> x.copy(2, 0, 2, 0, 1), () -> x.as(9, 0), () -> x.as(0, 0), () -> x.as(0, 9)};
        for (int c = 0; c < renew.length; c++) {
            x.put(0, 0, 0);
            renew[c].run();
            due.is("renewed by call " + c, x.fault(), 0);
        }
    }

    private static void many() {
        due.part("31 many");
        MacroKeys x = Due.with(THREE);
        x.play(0);
        x.press(4);
        x.press(9);
        x.play(3);
        x.reading(0, 1);
        int[] want = {3, 4, 3, 2, 1};
        for (int what = 0; what < 5; what++) {
            due.is("many(" + what + ")", x.many(what), want[what]);
        }
        for (int what : new int[] {-1, 5, MIN, MAX}) {
            due.is("outside", x.many(what), -2);
        }
    }
}
