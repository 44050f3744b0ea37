/** What can be come to: the terms of part 3, promises 11 to 15. */
final class EdgesOfWays {
    private static final int LINES = 7737, FULL_LINES = 6144, CURSOR_AHEAD = 1365;

    private EdgesOfWays() {
    }

    /** The row of keys that fewest() tells, key by key. */
    private static String way(MacroKeys x, String letters) {
        Due.row(x, 0, 0, letters.chars().map(c -> c - 'a').toArray());
        int n = x.fewest(0, 0, 0, letters.length(), -1);
        StringBuilder keys = new StringBuilder();
        for (int k = 0; k < n; k++) {
            keys.append(k == 0 ? "" : " ").append(x.fewest(0, 0, 0, letters.length(), k));
        }
        return keys.toString();
    }

    @Says(in = "Terms", words = "3 FEWEST to letters told: the fewest KEYS (0 .. 10, those there are")
    static void fewestKeys(Due due) {
        MacroKeys x = new MacroKeys();
        due.is("by keys 0 .. 7 alone", way(x, "dcdcd"), "3 2 3 2 3");
        Due.text(x, "k;p1a;p1b;p3dc");
        due.is("by key 10", way(x, "dcdcd"), "10");
        Due.text(x, "k;p1a;p2dc");
        due.is("by key 9", way(x, "dcdcd"), "9 3");
        Due.text(x, "k;p1cd");
        due.is("by key 8", way(x, "dcdcd"), "3 8 8");
        x.times(0, 2);
        due.is("by key 8, played twice now", way(x, "dcdcd"), "3 8");
    }

    @Says(in = "Terms", words = "a MACRO is one)")
    static void macroIsOneKey(Due due) {
        MacroKeys x = Due.with("k;e3xxxx;e3000b;e31111");
        due.is("thousands of keys", x.ofMacro(2, 4), 24 * 6 * (3 * 24 + 1));
        Due.row(x, 0, 0, 1);
        due.is("they leave b, as key 1 does", x.fewest(0, 0, 0, 1, -1), 1);
        Due.type(x, "aaaaa|");
        due.is("one key by which b is left", x.fewest(0, 0, 0, 1, -1), 1);
        due.is("it is the first macro that does", x.fewest(0, 0, 0, 1, 0), 9);
    }

    @Says(in = "Terms", words = "PRESSED one behind another, from THE LINE as it is,"
        + " by which it has just these letters")
    static void fromLineAsItIs(Due due) {
        due.is("from none to none", way(Due.typed("|"), ""), "");
        due.is("from none", way(Due.typed("|"), "ba"), "1 0");
        due.is("from b", way(Due.typed("b|"), "ba"), "0");
        due.is("from ba to b: no more than these letters", way(Due.typed("ba|"), "b"), "6");
        due.is("from ab to ba", way(Due.typed("ab|"), "ba"), "6 4 1");
        due.is("from five to none", way(Due.typed("abcda|"), ""), "6 6 6 6 6");
        due.is("from five to five others", way(Due.typed("|aaaaa"), "bbbbb").split(" ").length, 15);
    }

    @Says(in = "Terms", words = "(wherever the CURSOR is)")
    static void whereverCursorIs(Due due) {
        for (String line : new String[] {"|abc", "a|bc", "ab|c", "abc|"}) {
            due.is("from " + line, way(Due.typed(line), "abc"), "");
        }
        due.is("no way back is needed", way(Due.typed("|bc"), "abc"), "0");
    }

    @Says(in = "Terms", words = "of several rows of KEYS the first")
    static void firstOfSeveral(Due due) {
        due.is("4 1 is ahead of 7 1", way(Due.typed("a|"), "ba"), "4 1");
        due.is("5 5 6 6 is ahead of 5 6 5 6", way(Due.typed("|ab"), ""), "5 5 6 6");
        due.is("a behind the one a or ahead of it", way(Due.typed("|a"), "aa"), "0");
        due.is("take, then put", way(Due.typed("a|"), "b"), "6 1");
        MacroKeys same = Due.with("k;p1a;p1a");
        due.is("0 is ahead of 8 and 9", way(same, "aaa"), "0 0 0");
        MacroKeys two = Due.with("k;p1ab;p1ab");
        due.is("8 is ahead of 9", way(two, "abab"), "8 8");
        due.is("0 8 is ahead of 8 ..", way(Due.with("k;p1ba;p1ab"), "aba"), "0 8");
    }

    @Says(in = "Terms", words = "NONE: by none")
    static void someRowThereIs(Due due) {
        // Keys 0 .. 7 are always there, so no letters are come to by none; all are tried.
        for (int n = 0; n <= 5; n++) {
            for (int word = 0; word < 1 << 2 * n; word += 16) {
                MacroKeys x = Due.typed("|dcbad");
                x.sheet(0, 0, n);
                for (int code = word; code < word + 16 && code < 1 << 2 * n; code++) {
                    for (int i = 0; i < n; i++) {
                        x.put(0, i, code >> 2 * i & 3);
                    }
                    int keys = x.fewest(0, 0, 0, n, -1);
                    due.is("a row of at most 15 keys to " + code + " of " + n, keys >= 0 && keys <= 15 ? 1 : 0, 1);
                }
            }
        }
    }

    @Says(in = "Terms", words = "LINES are all there can be, of 0 to 5 letters, each with each place of the CURSOR")
    static void allLines(Due due) {
        MacroKeys x = Due.with("k;p1a;p1<>;e3x");
        for (int key = 0; key <= 10; key++) {
            due.is(key + " is like itself on all", x.like(key, key), LINES);
        }
        // 1 line of no letters, 2 places by 4 lines of one, 3 by 16, 4 by 64, 5 by 256, 6 by 1024.
        due.is("letters go in where there are not five", LINES - x.still(0), 1 + 8 + 48 + 256 + 1280);
    }

    @Says(in = "Terms", words = "AGAIN of a MACRO: played again and again, from THE LINE as it is")
    static void againFromLine(Due due) {
        String[] lines = {"|", "a|", "a|b", "|abc", "abcd|", "abcda|", "|abcda"};
        int[] want = {5, 4, 3, 2, 1, 0, 0};
        for (int t = 0; t < lines.length; t++) {
            MacroKeys x = Due.with("k;p1d");
            Due.type(x, lines[t]);
            String before = Due.state(x);
            due.is("d, from " + lines[t], x.again(0, 0), want[t]);
            due.is("d, from " + lines[t], x.again(0, 1), 1);
            due.is("what is left", Due.state(x), before);
        }
    }

    @Says(in = "Terms", words = ": behind how many times it is, CURSOR, too, first as it will be again")
    static void againWithCursor(Due due) {
        MacroKeys x = Due.with("k;p1<;p1>;p1h");
        Due.type(x, "abcda|");
        due.is("the letters are the same all the time: <", x.again(0, 0), 5);
        due.is(">", x.again(1, 0), 0);
        due.is("h", x.again(2, 0), 1);
        Due.type(x, "ab|c");
        due.is("<", x.again(0, 0), 2);
        due.is(">", x.again(1, 0), 1);
        due.is("h", x.again(2, 0), 1);
    }

    @Says(in = "Terms", words = "by how many times more it is so")
    static void againMore(Due due) {
        // No row of these keys turns lines in a longer round: by hand, from each of some lines.
        String[] texts = {"k;p1a", "k;p1xa<", "k;b1>x", "k;e1a>x<", "k;p1axb<;b10>;e1<1x", "k;p2h>;p1x0;p21b"};
        for (String text : texts) {
            for (String line : new String[] {"|", "ab|", "|abcda", "ab|cd"}) {
                MacroKeys x = Due.with(text);
                Due.type(x, line);
                int m = x.many(0) - 1;
                int behind = x.again(m, 0);
                int more = x.again(m, 1);
                byHand(due, x, m, behind, more);
            }
        }
    }

    private static void byHand(Due due, MacroKeys x, int m, int behind, int more) {
        java.util.List<String> seen = new java.util.ArrayList<>();
        while (!seen.contains(Due.line(x)) && seen.size() < 25) {
            seen.add(Due.line(x));
            x.play(m);
        }
        due.is("behind so many times", behind, seen.indexOf(Due.line(x)));
        due.is("so many times more", more, seen.size() - seen.indexOf(Due.line(x)));
    }

    @Says(in = "Terms", words = "LIKE of two KEYS: on how many LINES both do the same (letters, CURSOR)")
    static void likeOfTwo(Due due) {
        MacroKeys x = Due.with("k;p1b<;p1h;p1ax");
        due.is("a and b: where both bump", x.like(0, 1), FULL_LINES);
        due.is("a and >: where both bump", x.like(0, 5), 1024);
        due.is("< and x: the same cursor, but other letters", x.like(4, 6), CURSOR_AHEAD);
        due.is("< and h: behind one letter, too", x.like(4, 7), CURSOR_AHEAD + CURSOR_AHEAD - 1);
        due.is("b and b <: the same letters, but another cursor", x.like(1, 8), 1024);
        due.is("h and h", x.like(7, 9), LINES);
        due.is("< and >: no letters", x.like(4, 5), 1);
        Due.type(x, "abcda|");
        due.is("the line has no part in it", x.like(0, 5), 1024);
    }

    @Says(in = "Terms", words = "STILL of a KEY: how many LINES it leaves as they are")
    static void stillOfKey(Due due) {
        MacroKeys x = Due.with("k;p1ax;p1<;p1h>");
        for (int key = 0; key < 8; key++) {
            due.is("key " + key, x.still(key), key < 4 ? FULL_LINES : CURSOR_AHEAD);
        }
        due.is("a x: not five letters, or five and the cursor ahead", x.still(8), LINES - FULL_LINES + 1024);
        due.is("<", x.still(9), CURSOR_AHEAD);
        due.is("h >: behind one letter, or no letters", x.still(10), CURSOR_AHEAD);
        Due.type(x, "abcda|");
        due.is("the line has no part in it", x.still(0), FULL_LINES);
    }

    @Says(in = "Terms", words = "COME: how many LINES THE LINE can become by MACROS alone")
    static void comeByMacros(Due due) {
        MacroKeys x = Due.with("k;p1a");
        due.is("a", x.come(), 6);
        Due.type(x, "abc|");
        due.is("a, behind abc", x.come(), 3);
        Due.text(x, "k;p1a;p1b;p1x");
        due.is("a, b and x: all of a and b", x.come(), 1 + 2 + 4 + 8 + 16 + 32);
        Due.text(x, "k;p1a;p1<;p1>");
        due.is("a, < and >: each cursor", x.come(), 1 + 2 + 3 + 4 + 5 + 6);
    }

    @Says(in = "Terms", words = "(how it is now, too)")
    static void comeNow(Due due) {
        MacroKeys x = new MacroKeys();
        due.is("no macros", x.come(), 1);
        Due.type(x, "ab|c");
        due.is("no macros", x.come(), 1);
        Due.text(x, "k;p1x;p1h");
        due.is("macros that leave it", x.come(), 1);
        Due.text(x, "k;p1a");
        Due.type(x, "b|");
        due.is("it does not come back to b: b, ba, .., baaaa", x.come(), 5);
    }

    // ---- promise 11

    /** From no letters, two macros; letters as bytes on sheet 0, shorts on 1, ints on 2, nothing on 3. */
    private static MacroKeys words() {
        MacroKeys x = Due.with("k;p1ab;p3c");
        for (int k = 0; k < 3; k++) {
            Due.row(x, k, k, 9, 0, 1, 2, 2, 2, 3);
        }
        x.lose(3);
        return x;
    }

    @Says(in = "11", words = "FEWEST to n letters, that are cells of a SHEET from i on")
    static void fewestOfCells(Due due) {
        MacroKeys x = words();
        for (int k = 0; k < 3; k++) {
            due.is("none", x.fewest(k, k, 1, 0, -1), 0);
            due.is("none, at the end", x.fewest(k, k, 7, 0, -1), 0);
            due.is("ab", x.fewest(k, k, 1, 2, -1), 1);
            due.is("bcc", x.fewest(k, k, 2, 3, -1), 3);
            due.is("cccd", x.fewest(k, k, 3, 4, -1), 2);
            due.is("d, the last", x.fewest(k, k, 6, 1, -1), 1);
            due.is("d, the last", x.fewest(k, k, 6, 1, 0), 3);
            due.is("abccc", x.fewest(k, k, 1, 5, -1), 2);
        }
    }

    @Says(in = "11", words = "how many KEYS (k -1)")
    static void fewestMany(Due due) {
        MacroKeys x = words();
        due.is("ab ccc", x.fewest(0, 0, 1, 5, -1), 2);
        x.play(0);
        due.is("ccc", x.fewest(0, 0, 1, 5, -1), 1);
        x.play(1);
        due.is("it is so", x.fewest(0, 0, 1, 5, -1), 0);
    }

    @Says(in = "11", words = "the KEY in place k (0 .. 20) of the row")
    static void fewestPlace(Due due) {
        MacroKeys x = words();
        due.is("abccc, 0", x.fewest(0, 0, 1, 5, 0), 8);
        due.is("abccc, 1", x.fewest(0, 0, 1, 5, 1), 9);
        x = Due.typed("|aaaaa");
        Due.row(x, 0, 0, 1, 1, 1, 1, 1);
        // Each letter is passed, taken away and put anew; on to the end at once comes first.
        int[] want = {5, 5, 5, 5, 5, 6, 6, 6, 6, 6, 1, 1, 1, 1, 1};
        for (int k = 0; k <= 20; k++) {
            due.is("place " + k, x.fewest(0, 0, 0, 5, k), k < 15 ? want[k] : -9);
        }
    }

    @Says(in = "11", words = "NONE: there are not so many")
    static void fewestNotSoMany(Due due) {
        MacroKeys x = words();
        int[] many = {0, 1, 1, 2, 3, 2};
        for (int n = 0; n <= 5; n++) {
            due.is("how many, to " + n, x.fewest(0, 0, 1, n, -1), many[n]);
            for (int k = 0; k <= 20; k++) {
                due.is(n + " letters, place " + k, x.fewest(0, 0, 1, n, k) == -9 ? 1 : 0, k < many[n] ? 0 : 1);
            }
        }
    }

    @Says(in = "11", words = "UNKNOWN: SHEET")
    static void fewestOfNoSheet(Due due) {
        MacroKeys x = words();
        for (int k : Due.beyond(0, 3)) {
            due.is("sheet " + k, x.fewest(k, 0, 1, 2, -1), -1);
            due.is("fault()", x.fault(), 0);
        }
    }

    @Says(in = "11", words = "OUTSIDE: lane")
    static void fewestOfNoLane(Due due) {
        MacroKeys x = words();
        for (int lane : Due.beyond(0, 2)) {
            due.is("lane " + lane, x.fewest(0, lane, 1, 2, -1), -2);
            due.is("of nothing", x.fewest(3, lane, 1, 2, -1), -2);
            due.is("fault()", x.fault(), 0);
        }
    }

    @Says(in = "11", words = "n (0 .. 5)")
    static void fewestTooLong(Due due) {
        MacroKeys x = words();
        for (int n : Due.beyond(0, 5)) {
            due.is("n " + n, x.fewest(0, 0, 1, n, -1), -2);
            due.is("fault()", x.fault(), 0);
        }
        due.is("n 0", x.fewest(0, 0, 1, 0, -1), 0);
        due.is("n 5", x.fewest(0, 0, 1, 5, -1), 2);
    }

    @Says(in = "11", words = ", k;")
    static void fewestNoPlace(Due due) {
        MacroKeys x = words();
        for (int k : Due.beyond(-1, 20)) {
            due.is("k " + k, x.fewest(0, 0, 1, 2, k), -2);
            due.is("fault()", x.fault(), 0);
        }
        due.is("k -1", x.fewest(0, 0, 1, 2, -1), 1);
        due.is("k 20", x.fewest(0, 0, 1, 2, 20), -9);
    }

    @Says(in = "11", words = "FAULTS CAST")
    static void fewestCast(Due due) {
        MacroKeys x = words();
        for (int k = 0; k < 3; k++) {
            for (int lane = 0; lane < 3; lane++) {
                due.is("sheet " + k + " as " + lane, x.fewest(k, lane, 1, 2, -1), k == lane ? 1 : -12);
                due.is("fault()", x.fault(), k == lane ? 0 : 2);
            }
        }
    }

    @Says(in = "11", words = ", NULL")
    static void fewestNull(Due due) {
        MacroKeys x = words();
        for (int lane = 0; lane < 3; lane++) {
            due.fails(x, "nothing as " + lane, x.fewest(3, lane, 0, 0, -1), 1);
        }
    }

    @Says(in = "11", words = ", INDEX")
    static void fewestIndex(Due due) {
        MacroKeys x = words();
        due.fails(x, "one too many", x.fewest(0, 0, 3, 5, -1), 3);
        due.fails(x, "ahead of all", x.fewest(0, 0, -1, 1, -1), 3);
        due.fails(x, "behind all", x.fewest(0, 0, 7, 1, -1), 3);
        due.fails(x, "none, beyond", x.fewest(0, 0, 8, 0, -1), 3);
        due.fails(x, "none, ahead", x.fewest(0, 0, -1, 0, -1), 3);
        due.fails(x, "far", x.fewest(0, 0, Due.MAX, 5, -1), 3);
        due.fails(x, "far", x.fewest(0, 0, Due.MIN, 5, -1), 3);
        due.is("just all", x.fewest(0, 0, 3, 4, -1), 2);
    }

    @Says(in = "11", words = "OUTSIDE: a cell is not 0 .. 3")
    static void fewestCells(Due due) {
        MacroKeys x = words();
        for (int cell : Due.beyond(0, 3)) {
            Due.row(x, 2, 2, 0, 3, cell);
            due.is("cell " + cell, x.fewest(2, 2, 0, 3, -1), -2);
            due.is("fault()", x.fault(), 0);
            due.is("it is not taken", x.fewest(2, 2, 0, 2, -1), 2);
        }
    }

    // ---- promise 12

    @Says(in = "12", words = "AGAIN: behind how many times (what 0)")
    static void againBehind(Due due) {
        MacroKeys x = Due.with("k;p1a;p2a;p3a");
        due.is("a, one by one", x.again(0, 0), 5);
        due.is("two by two", x.again(1, 0), 3);
        due.is("three by three", x.again(2, 0), 2);
        x.times(0, 3);
        due.is("three by three", x.again(0, 0), 2);
        Due.type(x, "abcda|");
        due.is("at once", x.again(0, 0), 0);
    }

    @Says(in = "12", words = "by how many more (1)")
    static void againByMore(Due due) {
        MacroKeys x = Due.with("k;p1a;b1>x;e1a<x");
        for (int m = 0; m < 3; m++) {
            due.is("of " + m, x.again(m, 1), 1);
        }
        Due.type(x, "ab|cd");
        for (int m = 0; m < 3; m++) {
            due.is("of " + m, x.again(m, 1), 1);
        }
    }

    @Says(in = "12", words = "UNKNOWN")
    static void againOfNoMacro(Due due) {
        MacroKeys x = Due.with("k;p1a;p1b");
        for (int m : Due.beyond(0, 1)) {
            due.is("again(" + m + ", 0)", x.again(m, 0), -1);
            due.is("again(" + m + ", 1)", x.again(m, 1), -1);
        }
        due.is("of none", new MacroKeys().again(0, 0), -1);
    }

    @Says(in = "12", words = "OUTSIDE")
    static void againOutside(Due due) {
        MacroKeys x = Due.with("k;p1a;p1b");
        for (int what : Due.beyond(0, 1)) {
            due.is("again(0, " + what + ")", x.again(0, what), -2);
        }
    }

    // ---- promises 13 to 15

    @Says(in = "13", words = "LIKE")
    static void like(Due due) {
        MacroKeys x = Due.with("k;p1a;p10");
        due.is("a macro of a", x.like(8, 0), LINES);
        due.is("a macro of it", x.like(0, 9), LINES);
        x.times(0, 2);
        due.is("a a, and a: full lines, and those that one letter makes full", x.like(8, 0), FULL_LINES + 1280);
        due.is("a macro of it", x.like(9, 0), FULL_LINES + 1280);
    }

    @Says(in = "13", words = "UNKNOWN: either is no KEY (0 .. 7, 8 .. those there are)")
    static void likeOfNoKey(Due due) {
        String[] texts = {"k;p1a", "k;p1a;p1b", "k;p1a;p1b;p1c"};
        for (int many = 0; many <= 3; many++) {
            MacroKeys x = many == 0 ? new MacroKeys() : Due.with(texts[many - 1]);
            due.is("the last key", x.like(7 + many, 7 + many), LINES);
            for (int key : Due.beyond(0, 7 + many)) {
                due.is("the first, " + key, x.like(key, 0), -1);
                due.is("the other, " + key, x.like(0, key), -1);
                due.is("both, " + key, x.like(key, key), -1);
            }
        }
    }

    @Says(in = "14", words = "STILL")
    static void still(Due due) {
        MacroKeys x = Due.with("k;p1a;p10x");
        due.is("a x by a macro", x.still(9), LINES - FULL_LINES + 1024);
        x.times(0, 2);
        // Of four letters a goes in, a bumps, and x takes it away.
        due.is("a a x: four letters, or five and the cursor ahead", x.still(9), 1280 + 1024);
    }

    @Says(in = "14", words = "UNKNOWN: it is no KEY")
    static void stillOfNoKey(Due due) {
        String[] texts = {"k;p1a", "k;p1a;p1b", "k;p1a;p1b;p1c"};
        for (int many = 0; many <= 3; many++) {
            MacroKeys x = many == 0 ? new MacroKeys() : Due.with(texts[many - 1]);
            due.is("the last key", x.still(7 + many), many == 0 ? CURSOR_AHEAD : FULL_LINES);
            for (int key : Due.beyond(0, 7 + many)) {
                due.is("still(" + key + ")", x.still(key), -1);
            }
        }
    }

    @Says(in = "15", words = "COME")
    static void come(Due due) {
        MacroKeys x = new MacroKeys();
        due.is("no macros", x.come(), 1);
        Due.text(x, "k;p1a;p1x");
        due.is("a and x", x.come(), 6);
        x.times(0, 2);
        due.is("a a and x: 0 .. 5 a", x.come(), 6);
        x.times(1, 2);
        due.is("a a and x x: 0, 2, 4, 5, 3, 1", x.come(), 6);
        x.times(0, 3);
        x.times(1, 3);
        due.is("a a a and x x x: 0, 3, 5, 2", x.come(), 4);
        Due.text(x, "k;p1a;b1b<;e1>c");
        String before = Due.state(x);
        int many = x.come();
        due.is("what is left", Due.state(x), before);
        due.is("once more", x.come(), many);
    }
}
