/** What the tests share: it counts answers that are not as due, and puts texts and rows on sheets. */
final class Due {
    private int wrong;
    private String part = "";

    void part(String name) {
        part = name;
    }

    void is(String call, long got, long want) {
        if (got != want) {
            wrong++;
            System.out.println(part + ": " + call + " answered " + got + ", due is " + want);
        }
    }

    /** Ends the program: exit code 1 if an answer was not as due. */
    void end() {
        System.out.println(wrong == 0 ? "all answers are as due" : wrong + " answers are not as due");
        if (wrong != 0) {
            System.exit(1);
        }
    }

    static void row(MacroKeys x, int sheet, int lane, int... cells) {
        x.sheet(sheet, lane, cells.length);
        for (int i = 0; i < cells.length; i++) {
            x.put(sheet, i, cells[i]);
        }
    }

    static int text(MacroKeys x, String text) {
        row(x, 3, 0, text.chars().toArray());
        return x.macros(3, 0, 0, text.length());
    }

    static MacroKeys with(String text) {
        MacroKeys x = new MacroKeys();
        if (text(x, text) < 1) {
            throw new IllegalArgumentException(text);
        }
        return x;
    }

    /** The letters (a .. d) of the line, and | where the cursor is. */
    static String line(MacroKeys x) {
        StringBuilder told = new StringBuilder();
        for (int i = 0; i < x.many(1); i++) {
            told.append((char) ('a' + x.letter(i)));
        }
        return told.insert(x.many(2), '|').toString();
    }

    void line(MacroKeys x, String want) {
        if (!line(x).equals(want)) {
            wrong++;
            System.out.println(part + ": the line is " + line(x) + ", due is " + want);
        }
    }
}
