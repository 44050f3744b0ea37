/** READINGS, what they leave possible, and ODDS: the terms of part 4, promises 16 to 20. */
final class EdgesOfReadings {
    private static final long LOST = Long.MIN_VALUE;

    private EdgesOfReadings() {
    }

    @Says(in = "Terms", words = "4 READINGS, 8 at most")
    static void eightAtMost(Due due) {
        MacroKeys x = Due.with("k;p1a");
        for (int r = 0; r < 8; r++) {
            due.is("reading " + r, x.reading(0, 1), r);
        }
        due.is("a ninth", x.reading(0, 1), -4);
        due.is("how many", x.many(4), 8);
        x.back(1);
        due.is("room again", x.reading(0, 1), 7);
        due.is("and full again", x.reading(0, 1), -4);
    }

    @Says(in = "Terms", words = "numbered by how many there are")
    static void numbered(Due due) {
        MacroKeys x = Due.with("k;p1a;p1b");
        due.is("the first", x.reading(1, 1), 0);
        due.is("the second", x.reading(0, 1), 1);
        due.is("the same once more", x.reading(0, 1), 2);
        x.back(2);
        due.is("behind one", x.reading(0, 1), 1);
    }

    @Says(in = "Terms", words = "a MACRO played on no letters leaves so many")
    static void playedOnNoLetters(Due due) {
        MacroKeys x = Due.with("k;p2a");
        Due.type(x, "bc|d");
        x.reading(0, 2);
        due.is("aa on no letters, whatever the line is", x.timings(0), 4);
        due.line(x, "bc|d");
        Due.text(x, "k;p2ax");
        x.reading(0, 0);
        due.is("none are left", x.timings(0), 14);
        Due.text(x, "k;p3aaaa");
        x.reading(0, 5);
        due.is("five at most are left", x.timings(0), 12);
        Due.text(x, "k;p3x;p3bb0");
        x.reading(1, 3);
        due.is("bb and x so often, thrice: one of each bb is left by one x", x.timings(0), 2);
    }

    @Says(in = "Terms", words = "All that follows: in place of what it is alone")
    static void inPlaceOfItAlone(Due due) {
        MacroKeys x = Due.with("k;p2a;b10");
        x.reading(0, 3);
        due.is("2 does not count, 3 does", x.timings(0), 8);
        due.is("of the kinds a broad one", x.kinds(0), 2);
        due.is("the other stays as it is, so macro 0 leaves 2", x.timings(1), 0);
        due.is("the other stays as it is, so macro 0 leaves 2", x.kinds(1), 0);
        x.back(1);
        x.reading(1, 4);
        due.is("twice 2", x.timings(0), 4);
        due.is("what it is stays: times", x.ofMacro(0, 1), 2);
        due.is("what it is stays: kind", x.ofMacro(0, 0), 0);
        due.is("what it is stays: kind of the other", x.ofMacro(1, 0), 1);
        due.is("it plays as it did", x.play(1), 0);
        due.line(x, "aaaa|");
    }

    @Says(in = "Terms", words = "by which all READINGS are so")
    static void allReadings(Due due) {
        MacroKeys x = Due.with("k;p1a;p10;p1b");
        due.is("none: all may be", x.timings(0), 14);
        due.is("none: all may be", x.kinds(0), 7);
        x.reading(0, 2);
        due.is("one", x.timings(0), 4);
        x.reading(1, 2);
        due.is("two that agree", x.timings(0), 4);
        x.reading(0, 3);
        due.is("a third that does not", x.timings(0), 0);
        x.back(1);
        x.reading(2, 1);
        due.is("of another macro, that is so", x.timings(0), 4);
        x.back(1);
        x.reading(2, 2);
        due.is("of another macro, that is not so", x.timings(0), 0);
        due.is("of another macro, that is not so", x.kinds(0), 0);
        for (int r = 3; r < 8; r++) {
            x.reading(2, 2);
        }
        x.back(8);
        for (int r = 0; r < 8; r++) {
            x.reading(0, r < 7 ? 1 : 2);
        }
        due.is("the eighth counts", x.timings(0), 0);
        x.back(1);
        due.is("seven", x.timings(0), 2);
    }

    @Says(in = "Terms", words = "TIMINGS of a MACRO: TIMES 1 .. 3")
    static void timingsOfKinds(Due due) {
        // By kind, the times at which so many letters (0 .. 5) are left.
        int[][] want = {{0, 2, 4, 8, 0, 0}, {0, 0, 2, 4, 8, 0}, {0, 0, 2, 0, 4, 8}};
        for (int kind = 0; kind < 3; kind++) {
            for (int letters = 0; letters <= 5; letters++) {
                MacroKeys x = Due.with("k;" + "pbe".charAt(kind) + "2a");
                x.reading(0, letters);
                due.is("kind " + kind + ", letters " + letters, x.timings(0), want[kind][letters]);
            }
        }
    }

    @Says(in = "Terms", words = "KINDS of a MACRO: 0 .. 2")
    static void kindsOfTimes(Due due) {
        // By times, the kinds by which so many letters (0 .. 5) are left.
        int[][] want = {{0, 1, 6, 0, 0, 0}, {0, 0, 1, 2, 4, 0}, {0, 0, 0, 1, 2, 4}};
        for (int times = 1; times <= 3; times++) {
            for (int letters = 0; letters <= 5; letters++) {
                MacroKeys x = Due.with("k;b" + times + "a");
                x.reading(0, letters);
                due.is("times " + times + ", letters " + letters, x.kinds(0), want[times - 1][letters]);
            }
        }
    }

    @Says(in = "Terms", words = "as sets")
    static void asSets(Due due) {
        MacroKeys x = Due.with("k;p1x");
        x.reading(0, 0);
        due.is("all times", x.timings(0), 2 | 4 | 8);
        due.is("all kinds", x.kinds(0), 1 | 2 | 4);
        x.reading(0, 1);
        due.is("no times", x.timings(0), 0);
        due.is("no kinds", x.kinds(0), 0);
    }

    @Says(in = "Terms", words = "ODDS of n: if n of KEYS 0 .. 7 are PRESSED from THE LINE as it is, all rows alike")
    static void allRowsAlike(Due due) {
        for (String line : new String[] {"|", "a|", "|a", "ab|", "a|b", "|ab", "abc|", "abcd|", "abcda|"}) {
            MacroKeys x = Due.with("k;p1x");
            Due.type(x, line);
            String before = Due.state(x);
            for (int n = 0; n <= 3; n++) {
                byHand(due, x, line, n);
            }
            due.is("what is left", Due.state(x), before);
        }
    }

    /** All rows of n keys, one by one, each told by row(). */
    private static void byHand(Due due, MacroKeys x, String line, int n) {
        int rows = 1 << 3 * n;
        int empty = 0;
        MacroKeys by = Due.typed(line);
        for (int code = 0; code < rows; code++) {
            if (code % 64 == 0) {
                by = Due.typed(line);
                by.sheet(0, 0, n);
            }
            for (int i = 0; i < n; i++) {
                by.put(0, i, code >> 3 * i & 7);
            }
            empty += by.row(0, 0, 0, n, 0) == 0 ? 1 : 0;
        }
        due.is("share of " + n + " on " + line, x.odds(n, 0) * rows, x.odds(n, 1) * empty);
    }

    @Says(in = "Terms", words = "the share by which no letter is left")
    static void noLetterLeft(Due due) {
        odds(due, "|", 0, 1, 1);
        odds(due, "a|", 0, 0, 1);
        odds(due, "a|", 1, 1, 8);
        odds(due, "|a", 1, 0, 1);
        odds(due, "|a", 2, 1, 64);
        odds(due, "ab|", 2, 1, 64);
        odds(due, "abcd|", 4, 1, 4096);
        odds(due, "|ab", 4, 1, 2048);
        odds(due, "abcda|", 4, 0, 1);
    }

    private static void odds(Due due, String line, int n, int upper, int lower) {
        MacroKeys x = Due.typed(line);
        due.is(line + ", " + n + ": upper", x.odds(n, 0), upper);
        due.is(line + ", " + n + ": lower", x.odds(n, 1), lower);
    }

    // ---- promises 16 and 17

    @Says(in = "16", words = "A READING: its number")
    static void reading(Due due) {
        MacroKeys x = Due.with("k;p1a;p1b;p1c");
        for (int r = 0; r < 8; r++) {
            due.is("reading", x.reading(r % 3, 1), r);
            due.is("how many", x.many(4), r + 1);
        }
    }

    @Says(in = "16", words = "UNKNOWN")
    static void readingOfNoMacro(Due due) {
        MacroKeys x = Due.with("k;p1a;p1b");
        for (int m : Due.beyond(0, 1)) {
            due.is("reading(" + m + ", 1)", x.reading(m, 1), -1);
        }
        due.is("how many", x.many(4), 0);
        due.is("of none", new MacroKeys().reading(0, 1), -1);
    }

    @Says(in = "16", words = "OUTSIDE: letters (0 .. 5)")
    static void readingOutside(Due due) {
        MacroKeys x = Due.with("k;p1a");
        for (int letters : Due.beyond(0, 5)) {
            due.is("reading(0, " + letters + ")", x.reading(0, letters), -2);
        }
        due.is("how many", x.many(4), 0);
        due.is("no letters", x.reading(0, 0), 0);
        due.is("five letters", x.reading(0, 5), 1);
    }

    @Says(in = "16", words = "FULL")
    static void readingFull(Due due) {
        MacroKeys x = Due.with("k;p1a");
        for (int r = 0; r < 8; r++) {
            due.is("room", x.reading(0, 1), r);
        }
        due.is("no room", x.reading(0, 5), -4);
        due.is("no room", x.reading(0, 0), -4);
        due.is("eight are left", x.many(4), 8);
        due.is("as they were", x.timings(0), 2);
    }

    @Says(in = "17", words = "The last n READINGS (0 .. as many as there are) are taken back")
    static void back(Due due) {
        for (int n = 0; n <= 3; n++) {
            MacroKeys x = Due.with("k;p3a");
            x.reading(0, 1);
            x.reading(0, 2);
            x.reading(0, 3);
            x.back(n);
            due.is("left of three, " + n + " taken back", x.many(4), 3 - n);
            due.is("what they tell", x.timings(0), n == 3 ? 14 : n == 2 ? 2 : 0);
        }
    }

    @Says(in = "17", words = "how many are left")
    static void backTells(Due due) {
        MacroKeys x = Due.with("k;p1a");
        due.is("none of none", x.back(0), 0);
        for (int r = 0; r < 8; r++) {
            x.reading(0, 1);
        }
        due.is("none", x.back(0), 8);
        due.is("one", x.back(1), 7);
        due.is("two", x.back(2), 5);
        due.is("all", x.back(5), 0);
    }

    @Says(in = "17", words = "OUTSIDE")
    static void backOutside(Due due) {
        MacroKeys x = Due.with("k;p1a");
        for (int many = 0; many <= 8; many++) {
            for (int n : Due.beyond(0, many)) {
                due.is("back(" + n + ") of " + many, x.back(n), -2);
            }
            due.is("all are left", x.many(4), many);
            x.reading(0, 1);
        }
    }

    // ---- promises 18 and 19

    @Says(in = "18", words = "TIMINGS, as a set")
    static void timings(Due due) {
        MacroKeys x = Due.with("k;p1a;e10");
        due.is("no readings", x.timings(0), 14);
        x.reading(1, 4);
        due.is("of 0: 2", x.timings(0), 4);
        due.is("of 1: 2", x.timings(1), 4);
        x.back(1);
        x.reading(1, 5);
        due.is("of 0: twice 3", x.timings(0), 8);
        due.is("of 1: 6 times 1", x.timings(1), 8);
    }

    @Says(in = "18", words = "UNKNOWN")
    static void timingsOfNoMacro(Due due) {
        MacroKeys x = Due.with("k;p1a;p1b");
        for (int m : Due.beyond(0, 1)) {
            due.is("timings(" + m + ")", x.timings(m), -1);
        }
        due.is("of none", new MacroKeys().timings(0), -1);
    }

    @Says(in = "19", words = "KINDS, as a set")
    static void kinds(Due due) {
        MacroKeys x = Due.with("k;p1a;e10");
        due.is("no readings", x.kinds(0), 7);
        x.reading(1, 4);
        due.is("of 0: broad or even", x.kinds(0), 6);
        due.is("of 1: none", x.kinds(1), 0);
        x.back(1);
        x.reading(1, 2);
        due.is("of 0: plain", x.kinds(0), 1);
        due.is("of 1: broad or even", x.kinds(1), 6);
    }

    @Says(in = "19", words = "UNKNOWN")
    static void kindsOfNoMacro(Due due) {
        MacroKeys x = Due.with("k;p1a;p1b");
        for (int m : Due.beyond(0, 1)) {
            due.is("kinds(" + m + ")", x.kinds(m), -1);
        }
        due.is("of none", new MacroKeys().kinds(0), -1);
    }

    // ---- promise 20

    @Says(in = "20", words = "ODDS of n (0 .. 4")
    static void oddsOfNone(Due due) {
        // No letters: 1; 4 of 8; 20 of 64; 100 of 512; 524 of 4096.
        int[] upper = {1, 1, 5, 25, 131};
        int[] lower = {1, 2, 16, 128, 1024};
        MacroKeys x = new MacroKeys();
        for (int n = 0; n <= 4; n++) {
            due.is("upper of " + n, x.odds(n, 0), upper[n]);
            due.is("lower of " + n, x.odds(n, 1), lower[n]);
        }
    }

    @Says(in = "20", words = "which 0 the upper, 1 the lower number)")
    static void oddsWhich(Due due) {
        MacroKeys x = Due.typed("a|");
        due.is("the upper", x.odds(1, 0), 1);
        due.is("the lower", x.odds(1, 1), 8);
    }

    @Says(in = "20", words = "LOST: OUTSIDE")
    static void oddsOutside(Due due) {
        MacroKeys x = new MacroKeys();
        for (int n : Due.beyond(0, 4)) {
            due.is("odds(" + n + ", 0)", x.odds(n, 0), LOST);
            due.is("odds(" + n + ", 1)", x.odds(n, 1), LOST);
        }
        for (int which : Due.beyond(0, 1)) {
            due.is("odds(0, " + which + ")", x.odds(0, which), LOST);
            due.is("odds(4, " + which + ")", x.odds(4, which), LOST);
        }
    }
}
