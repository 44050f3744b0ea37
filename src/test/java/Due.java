/** What the tests share: it counts answers that are not as due, and puts texts and rows on sheets. */
final class Due {
    static final int MIN = Integer.MIN_VALUE, MAX = Integer.MAX_VALUE;
    private int wrong;
    private int looks;
    private String part = "";

    void part(String name) {
        part = name;
    }

    /** How many answers were looked at. */
    int looks() {
        return looks;
    }

    void is(String call, long got, long want) {
        looks++;
        if (got != want) {
            wrong++;
            System.out.println(part + ": " + call + " answered " + got + ", due is " + want);
        }
    }

    void is(String call, String got, String want) {
        looks++;
        if (!got.equals(want)) {
            wrong++;
            System.out.println(part + ": " + call + " is " + got + ", due is " + want);
        }
    }

    /** A machine's fault is answered as -10 less it, and told by fault(). */
    void fails(MacroKeys x, String call, int got, int fault) {
        is(call, got, -10 - fault);
        is(call + ", fault()", x.fault(), fault);
    }

    /** Where a long is answered, refusals and faults are LOST; fault() tells them apart. */
    void loses(MacroKeys x, String call, long got, int fault) {
        is(call, got, Long.MIN_VALUE);
        is(call + ", fault()", x.fault(), fault);
    }

    /** Ends the program: exit code 1 if an answer was not as due. */
    void end() {
        System.out.println(wrong == 0 ? "all answers are as due" : wrong + " answers are not as due");
        if (wrong != 0) {
            System.exit(1);
        }
    }

    static void row(MacroKeys x, int sheet, int lane, int... cells) {
        x.sheet(sheet, lane, cells.length);
        for (int i = 0; i < cells.length; i++) {
            x.put(sheet, i, cells[i]);
        }
    }

    static int text(MacroKeys x, String text) {
        row(x, 3, 0, text.chars().toArray());
        return x.macros(3, 0, 0, text.length());
    }

    static MacroKeys with(String text) {
        MacroKeys x = new MacroKeys();
        if (text(x, text) < 1) {
            throw new IllegalArgumentException(text);
        }
        return x;
    }

    /** The letters (a .. d) of the line, and | where the cursor is. */
    static String line(MacroKeys x) {
        StringBuilder told = new StringBuilder();
        for (int i = 0; i < x.many(1); i++) {
            told.append((char) ('a' + x.letter(i)));
        }
        return told.insert(x.many(2), '|').toString();
    }

    void line(MacroKeys x, String want) {
        is("the line", line(x), want);
    }

    /** The line becomes one told as line() tells it. */
    static void type(MacroKeys x, String line) {
        String letters = line.replace("|", "");
        x.clear();
        for (int i = 0; i < letters.length(); i++) {
            x.press(letters.charAt(i) - 'a');
        }
        for (int i = letters.length(); i > line.indexOf('|'); i--) {
            x.press(4);
        }
    }

    static MacroKeys typed(String line) {
        MacroKeys x = new MacroKeys();
        type(x, line);
        return x;
    }

    /** Numbers that are not low .. high: just too small, just too large, and as far as can be. */
    static int[] beyond(int low, int high) {
        return new int[] {MIN, low - 1, high + 1, MAX};
    }

    /** All that can be asked of an object and changes nothing but fault(), which cell() makes anew. */
    static String state(MacroKeys x) {
        StringBuilder told = new StringBuilder();
        for (int what = 0; what < 5; what++) {
            told.append(x.many(what)).append(' ');
        }
        told.append(line(x)).append(" trace ").append(x.trace());
        for (int m = 0; m < x.many(0); m++) {
            told.append(" macro");
            for (int what = 0; what < 5; what++) {
                told.append(' ').append(x.ofMacro(m, what));
            }
            for (int i = 0; i < x.ofMacro(m, 3); i++) {
                told.append(i == 0 ? " keys " : " ").append(x.key(m, i));
            }
            told.append(" sets ").append(x.timings(m)).append(' ').append(x.kinds(m));
        }
        for (int k = 0; k < 4; k++) {
            told.append(" sheet").append(cells(x, k));
        }
        return told.toString();
    }

    private static String cells(MacroKeys x, int sheet) {
        StringBuilder told = new StringBuilder();
        for (int lane = 0; lane < 3; lane++) {
            for (int i = 0; x.cell(sheet, i, lane) != MacroKeys.LOST; i++) {
                told.append(' ').append(x.cell(sheet, i, lane));
            }
            // By the fault it ends with: nothing, another lane, or no more cells.
            x.cell(sheet, 60, lane);
            told.append(" /").append(x.fault());
        }
        return told.toString();
    }
}
