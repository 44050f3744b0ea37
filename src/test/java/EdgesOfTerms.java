import java.util.ArrayList;
import java.util.List;
import java.util.function.ToLongFunction;

/** REFUSALS, FAULTS, and how numbers, sets and shares are told: on all calls that tell such. */
final class EdgesOfTerms {
    /** In place of a fault: the call names none, so fault() stays as it was. */
    private static final int STAYS = -1;
    private static final long LOST = Long.MIN_VALUE;

    private record Call(String name, ToLongFunction<MacroKeys> call, long answer, int fault) {
    }

    private EdgesOfTerms() {
    }

    /** Something of everything: shorts on sheet 0, a row of none on 1, nothing on 2, the text on 3. */
    private static MacroKeys everything() {
        MacroKeys x = Due.with("k;p2ab;b1x0");
        Due.row(x, 0, 1, 5, -6, 10);
        x.sheet(1, 2, 0);
        Due.type(x, "ca|bb");
        for (int r = 0; r < 4; r++) {
            x.reading(0, 4);
            x.reading(1, 5);
        }
        x.tell(1);
        return x;
    }

    private static List<Call> refused() {
        List<Call> calls = new ArrayList<>(refusedWithoutFaults());
        calls.add(new Call("macros, sheet", x -> x.macros(4, 0, 0, 7), -1, 0));
        calls.add(new Call("macros, lane", x -> x.macros(3, 3, 0, 7), -2, 0));
        calls.add(new Call("macros, a text with a fault", x -> x.macros(3, 0, 1, 6), -100, 0));
        calls.add(new Call("macros, a text that ends", x -> x.macros(3, 0, 0, 9), -109, 0));
        calls.add(new Call("row, sheet", x -> x.row(-1, 1, 0, 1, 0), -1, 0));
        calls.add(new Call("row, lane", x -> x.row(0, -1, 0, 1, 0), -2, 0));
        calls.add(new Call("row, n", x -> x.row(0, 1, 0, 21, 0), -2, 0));
        calls.add(new Call("row, what", x -> x.row(0, 1, 0, 1, 5), -2, 0));
        calls.add(new Call("row, a cell", x -> x.row(0, 1, 1, 1, 0), -2, 0));
        calls.add(new Call("row, a macro", x -> x.row(0, 1, 2, 1, 0), -1, 0));
        calls.add(new Call("fewest, sheet", x -> x.fewest(4, 1, 0, 1, -1), -1, 0));
        calls.add(new Call("fewest, lane", x -> x.fewest(0, 3, 0, 1, -1), -2, 0));
        calls.add(new Call("fewest, n", x -> x.fewest(0, 1, 0, 6, -1), -2, 0));
        calls.add(new Call("fewest, k", x -> x.fewest(0, 1, 0, 1, 21), -2, 0));
        calls.add(new Call("fewest, a cell", x -> x.fewest(0, 1, 0, 1, -1), -2, 0));
        calls.add(new Call("sheet, sheet", x -> x.sheet(4, 0, 1), -1, 0));
        calls.add(new Call("sheet, lane", x -> x.sheet(0, 3, 1), -2, 0));
        calls.add(new Call("sheet, n", x -> x.sheet(0, 0, 61), -2, 0));
        calls.add(new Call("put, sheet", x -> x.put(-1, 0, 9), -1, 0));
        calls.add(new Call("cell, sheet", x -> x.cell(4, 0, 1), LOST, 0));
        calls.add(new Call("cell, lane", x -> x.cell(0, 0, 3), LOST, 0));
        calls.add(new Call("copy, sheet", x -> x.copy(4, 0, 0, 0, 1), -1, 0));
        calls.add(new Call("copy, other", x -> x.copy(0, 0, 4, 0, 1), -1, 0));
        calls.add(new Call("as, macro", x -> x.as(2, 0), -1, 0));
        calls.add(new Call("as, kind", x -> x.as(0, 3), -2, 0));
        return calls;
    }

    private static List<Call> refusedWithoutFaults() {
        return List.of(
            new Call("ofMacro, macro", x -> x.ofMacro(2, 0), -1, STAYS),
            new Call("ofMacro, what", x -> x.ofMacro(0, 5), -2, STAYS),
            new Call("key, macro", x -> x.key(2, 0), -1, STAYS),
            new Call("key, i", x -> x.key(0, 2), -1, STAYS),
            new Call("times, macro", x -> x.times(2, 1), -1, STAYS),
            new Call("times, v", x -> x.times(0, 0), -2, STAYS),
            new Call("times, v", x -> x.times(0, 4), -2, STAYS),
            new Call("press", x -> x.press(-1), -2, STAYS),
            new Call("press, a macro", x -> x.press(8), -2, STAYS),
            new Call("play", x -> x.play(2), -1, STAYS),
            new Call("letter", x -> x.letter(4), -1, STAYS),
            new Call("again, macro", x -> x.again(2, 0), -1, STAYS),
            new Call("again, what", x -> x.again(0, 2), -2, STAYS),
            new Call("like", x -> x.like(10, 0), -1, STAYS),
            new Call("like, other", x -> x.like(0, 10), -1, STAYS),
            new Call("still", x -> x.still(10), -1, STAYS),
            new Call("reading, macro", x -> x.reading(2, 0), -1, STAYS),
            new Call("reading, letters", x -> x.reading(0, 6), -2, STAYS),
            new Call("reading, the ninth", x -> x.reading(0, 0), -4, STAYS),
            new Call("back", x -> x.back(-1), -2, STAYS),
            new Call("back", x -> x.back(9), -2, STAYS),
            new Call("timings", x -> x.timings(2), -1, STAYS),
            new Call("kinds", x -> x.kinds(2), -1, STAYS),
            new Call("odds, n", x -> x.odds(5, 0), LOST, STAYS),
            new Call("odds, which", x -> x.odds(0, 2), LOST, STAYS),
            new Call("lose", x -> x.lose(4), -1, STAYS),
            new Call("tell", x -> x.tell(2), -1, STAYS),
            new Call("click", x -> x.click(2), -1, STAYS),
            new Call("many", x -> x.many(5), -2, STAYS));
    }

    private static List<Call> faults() {
        return List.of(
            new Call("macros of another lane", x -> x.macros(3, 1, 0, 7), -12, 2),
            new Call("macros of nothing", x -> x.macros(2, 0, 0, 7), -11, 1),
            new Call("macros of less than none", x -> x.macros(3, 0, 0, -1), -14, 4),
            new Call("macros beyond", x -> x.macros(3, 0, 0, 12), -13, 3),
            new Call("row of another lane", x -> x.row(0, 0, 0, 1, 0), -12, 2),
            new Call("row of nothing", x -> x.row(2, 0, 0, 1, 0), -11, 1),
            new Call("row beyond", x -> x.row(0, 1, 0, 4, 0), -13, 3),
            new Call("fewest of another lane", x -> x.fewest(0, 2, 0, 1, -1), -12, 2),
            new Call("fewest of nothing", x -> x.fewest(2, 2, 0, 1, -1), -11, 1),
            new Call("fewest beyond", x -> x.fewest(1, 2, 0, 1, -1), -13, 3),
            new Call("sheet of less than none", x -> x.sheet(0, 1, -1), -14, 4),
            new Call("put on nothing", x -> x.put(2, 0, 9), -11, 1),
            new Call("put beyond", x -> x.put(0, 3, 9), -13, 3),
            new Call("cell of another lane", x -> x.cell(0, 0, 2), LOST, 2),
            new Call("cell of nothing", x -> x.cell(2, 0, 1), LOST, 1),
            new Call("cell beyond", x -> x.cell(0, 3, 1), LOST, 3),
            new Call("copy of nothing", x -> x.copy(2, 0, 0, 0, 1), -11, 1),
            new Call("copy to nothing", x -> x.copy(0, 0, 2, 0, 1), -11, 1),
            new Call("copy to another lane", x -> x.copy(0, 0, 3, 0, 1), -12, 2),
            new Call("copy beyond", x -> x.copy(0, 0, 0, 1, 3), -13, 3),
            new Call("a plain one as a broad one", x -> x.as(0, 1), -12, 2),
            new Call("a broad one as an even one", x -> x.as(1, 2), -12, 2));
    }

    private static void changesNothing(Due due, Call call) {
        MacroKeys x = everything();
        String before = Due.state(x);
        due.is(call.name, call.call.applyAsLong(x), call.answer);
        due.is(call.name + ", what is left", Due.state(x), before);
    }

    @Says(in = "Terms", words = "they change nothing")
    static void refusalsChangeNothing(Due due) {
        for (Call call : refused()) {
            changesNothing(due, call);
        }
    }

    @Says(in = "Terms", words = "(but fault(), of a call that names FAULTS)")
    static void refusalsMakeFaultAnew(Due due) {
        for (Call call : refused()) {
            MacroKeys x = everything();
            due.fails(x, "a fault ahead of it", x.put(0, -1, 0), 3);
            due.is(call.name, call.call.applyAsLong(x), call.answer);
            due.is(call.name + ", fault()", x.fault(), call.fault == STAYS ? 3 : call.fault);
        }
    }

    @Says(in = "Terms", words = "and changes nothing")
    static void faultsChangeNothing(Due due) {
        for (Call call : faults()) {
            changesNothing(due, call);
        }
    }

    @Says(in = "Terms", words = "fault() tells it")
    static void faultIsTold(Due due) {
        for (Call call : faults()) {
            MacroKeys x = everything();
            due.is(call.name, call.call.applyAsLong(x), call.answer);
            due.is(call.name + ", fault()", x.fault(), call.fault);
            due.is(call.name + ", fault() once more", x.fault(), call.fault);
        }
    }

    @Says(in = "Terms", words = "it answers -10 less it")
    static void faultsAreLess(Due due) {
        MacroKeys x = everything();
        due.is("null", x.put(2, 0, 0), -11);
        due.is("cast", x.as(0, 1), -12);
        due.is("index", x.put(0, 3, 0), -13);
        due.is("size", x.sheet(0, 1, -1), -14);
    }

    @Says(in = "Terms", words = "(LOST, where a long is answered, as for refusals)")
    static void longsAreLost(Due due) {
        MacroKeys x = everything();
        due.is("LOST", MacroKeys.LOST, Long.MIN_VALUE);
        due.loses(x, "a fault", x.cell(2, 0, 0), 1);
        due.loses(x, "a refusal", x.cell(4, 0, 0), 0);
        due.is("a refusal", x.odds(5, 0), LOST);
    }

    @Says(in = "Terms", words = "REFUSALS, in the order in which a call's line tells them")
    static void refusalsAreInOrder(Due due) {
        MacroKeys x = everything();
        due.is("ofMacro: macro, what", x.ofMacro(2, 5), -1);
        due.is("times: macro, v", x.times(2, 0), -1);
        due.is("again: macro, what", x.again(2, 2), -1);
        due.is("reading: macro, letters", x.reading(2, 6), -1);
        due.is("reading: macro, full", x.reading(2, 0), -1);
        due.is("reading: letters, full", x.reading(0, 6), -2);
        due.is("macros: sheet, lane", x.macros(4, 3, 0, 7), -1);
        due.is("macros: lane, nothing", x.macros(2, 3, 0, 7), -2);
        due.is("macros: lane, size", x.macros(3, 3, 0, -1), -2);
        due.is("row: sheet, lane", x.row(4, 3, 0, 1, 0), -1);
        due.is("row: sheet, n", x.row(4, 1, 0, 21, 0), -1);
        due.is("row: sheet, what", x.row(4, 1, 0, 1, 5), -1);
        due.is("row: n, nothing", x.row(2, 1, 0, 21, 0), -2);
        due.is("row: n, another lane", x.row(0, 0, 0, -1, 0), -2);
        due.is("row: what, index", x.row(0, 1, 9, 1, 5), -2);
        due.is("row: index, a cell", x.row(0, 1, 1, 3, 0), -13);
        due.is("row: a cell, a macro", x.row(0, 1, 1, 2, 0), -2);
        due.is("fewest: sheet, lane", x.fewest(4, 3, 0, 1, -1), -1);
        due.is("fewest: sheet, n", x.fewest(4, 1, 0, 6, -1), -1);
        due.is("fewest: sheet, k", x.fewest(4, 1, 0, 1, -2), -1);
        due.is("fewest: k, nothing", x.fewest(2, 1, 0, 1, -2), -2);
        due.is("fewest: n, another lane", x.fewest(0, 0, 0, -1, 0), -2);
        due.is("fewest: index, a cell", x.fewest(0, 1, 0, 4, 0), -13);
        due.is("sheet: sheet, lane", x.sheet(4, 3, 1), -1);
        due.is("sheet: sheet, size", x.sheet(4, 0, -1), -1);
        due.is("sheet: lane, size", x.sheet(0, 3, -1), -2);
        due.is("put: sheet, index", x.put(4, -1, 0), -1);
        due.is("copy: sheet, nothing", x.copy(4, 0, 2, 0, 1), -1);
        due.is("copy: nothing, other", x.copy(2, 0, 4, 0, 1), -1);
        due.is("as: macro, kind", x.as(2, 3), -1);
        due.is("as: kind, cast", x.as(0, 3), -2);
    }

    @Says(in = "Terms", words = "Of a call the first that is come to, in the order told")
    static void faultsAreInOrder(Due due) {
        MacroKeys x = everything();
        due.fails(x, "macros: cast, size", x.macros(3, 1, 0, -1), 2);
        due.fails(x, "macros: cast, index", x.macros(3, 1, -1, 7), 2);
        due.fails(x, "macros: null, size", x.macros(2, 1, 0, -1), 1);
        due.fails(x, "macros: null, index", x.macros(2, 1, -1, 7), 1);
        due.fails(x, "macros: size, index", x.macros(3, 0, -1, -1), 4);
        due.fails(x, "row: cast, index", x.row(0, 2, -1, 1, 0), 2);
        due.fails(x, "row: null, index", x.row(2, 2, -1, 1, 0), 1);
        due.fails(x, "fewest: cast, index", x.fewest(0, 2, -1, 1, 0), 2);
        due.fails(x, "fewest: null, index", x.fewest(2, 2, -1, 1, 0), 1);
        due.fails(x, "put: null, index", x.put(2, -1, 0), 1);
        due.loses(x, "cell: cast, index", x.cell(0, -1, 2), 2);
        due.loses(x, "cell: null, index", x.cell(2, -1, 2), 1);
        due.fails(x, "copy: null, index", x.copy(2, -1, 0, 0, 1), 1);
        due.fails(x, "copy: null (the other), index", x.copy(0, -1, 2, 0, 1), 1);
        due.fails(x, "copy: cast, index", x.copy(0, -1, 3, 0, 1), 2);
        due.fails(x, "copy: cast, n below 0", x.copy(0, 0, 3, 0, -1), 2);
    }

    @Says(in = "Terms", words = "UNKNOWN (there is no such MACRO, KEY, SHEET, place of a row)")
    static void unknown(Due due) {
        MacroKeys x = everything();
        due.is("UNKNOWN", MacroKeys.UNKNOWN, -1);
        due.is("a macro", x.play(2), -1);
        due.is("a key", x.still(10), -1);
        due.is("a sheet", x.lose(4), -1);
        due.is("a place of the keys on a macro", x.key(0, 2), -1);
        due.is("a place of the line", x.letter(4), -1);
    }

    @Says(in = "Terms", words = "OUTSIDE (another number is not as told)")
    static void outside(Due due) {
        MacroKeys x = everything();
        due.is("OUTSIDE", MacroKeys.OUTSIDE, -2);
        due.is("what", x.many(5), -2);
        due.is("times", x.times(0, 4), -2);
        due.is("a lane", x.sheet(0, 3, 1), -2);
    }

    @Says(in = "Terms", words = "STATE (as told)")
    static void state(Due due) {
        due.is("STATE, which no call tells", MacroKeys.STATE, -3);
    }

    @Says(in = "Terms", words = "FULL")
    static void full(Due due) {
        due.is("FULL", MacroKeys.FULL, -4);
        due.is("a ninth reading", everything().reading(0, 4), -4);
    }

    @Says(in = "Terms", words = "FAULTS are the machine's: 1 NULL (there is nothing)")
    static void nothing(Due due) {
        MacroKeys x = everything();
        due.fails(x, "nothing at first", x.put(2, 0, 0), 1);
        due.fails(x, "a row of none is something", x.put(1, 0, 0), 3);
        x.lose(0);
        due.fails(x, "nothing any more", x.put(0, 0, 0), 1);
        x.sheet(0, 0, 1);
        due.is("something again", x.put(0, 0, 0), 1);
    }

    @Says(in = "Terms", words = "2 CAST (it is of another lane, kind)")
    static void cast(Due due) {
        MacroKeys x = everything();
        due.fails(x, "shorts as bytes", x.macros(0, 0, 0, 1), 2);
        due.fails(x, "shorts as ints", x.macros(0, 2, 0, 1), 2);
        due.fails(x, "a row of none, too", x.macros(1, 0, 0, 0), 2);
        due.fails(x, "a kind", x.as(0, 2), 2);
    }

    @Says(in = "Terms", words = "3 INDEX (of cells from i on also where i is not 0 .. how many there are,"
        + " if none of them is taken, too)")
    static void indexOfNone(Due due) {
        MacroKeys x = everything();
        for (int i : Due.beyond(0, 3)) {
            due.fails(x, "row of none", x.row(0, 1, i, 0, 0), 3);
            due.fails(x, "fewest to none", x.fewest(0, 1, i, 0, -1), 3);
            due.fails(x, "macros of none", x.macros(0, 1, i, 0), 3);
            due.fails(x, "copy of none", x.copy(0, i, 0, 0, 0), 3);
            due.fails(x, "copy of none, to there", x.copy(0, 0, 0, i, 0), 3);
        }
        for (int i = 0; i <= 3; i++) {
            due.is("row of none", x.row(0, 1, i, 0, 0), 4);
            due.is("fewest to none: x, x, >, >, x, x", x.fewest(0, 1, i, 0, -1), 6);
            due.is("macros of none", x.macros(0, 1, i, 0), -100);
            due.is("copy of none", x.copy(0, i, 0, 3 - i, 0), 0);
        }
        due.is("none of a row of none", x.row(1, 2, 0, 0, 0), 4);
        due.fails(x, "none of it behind its end", x.row(1, 2, 1, 0, 0), 3);
        due.fails(x, "none of it ahead of it", x.row(1, 2, -1, 0, 0), 3);
    }

    @Says(in = "Terms", words = "4 SIZE (a length below 0)")
    static void size(Due due) {
        MacroKeys x = everything();
        due.fails(x, "sheet", x.sheet(0, 1, -1), 4);
        due.fails(x, "sheet", x.sheet(0, 1, Due.MIN), 4);
        due.fails(x, "macros", x.macros(3, 0, 0, -1), 4);
        due.fails(x, "macros", x.macros(3, 0, 0, Due.MIN), 4);
        due.is("a length of 0", x.sheet(0, 1, 0), 1);
        due.is("a length of 0", x.macros(0, 1, 0, 0), -100);
    }

    @Says(in = "Terms", words = "NONE is -9")
    static void none(Due due) {
        MacroKeys x = everything();
        due.is("NONE", MacroKeys.NONE, -9);
        due.is("no key bumps", x.row(1, 2, 0, 0, 2), -9);
    }

    @Says(in = "Terms", words = "Sets are told as bits (bit k for number k)")
    static void setsAreBits(Due due) {
        MacroKeys x = Due.with("k;p1a");
        due.is("times 1, 2, 3", x.timings(0), 2 + 4 + 8);
        due.is("kinds 0, 1, 2", x.kinds(0), 1 + 2 + 4);
        for (int letters = 0; letters <= 4; letters++) {
            x.reading(0, letters);
            due.is("times " + letters, x.timings(0), letters >= 1 && letters <= 3 ? 1 << letters : 0);
            x.back(1);
        }
    }

    @Says(in = "Terms", words = "Shares are told as upper and lower number (above 0) in least terms")
    static void sharesAreInLeastTerms(Due due) {
        MacroKeys x = Due.typed("aaaaa|");
        for (int n = 0; n <= 4; n++) {
            due.is("none of all rows: 0", x.odds(n, 0), 0);
            due.is("none of all rows: of 1", x.odds(n, 1), 1);
        }
        x.clear();
        due.is("all of one row: 1", x.odds(0, 0), 1);
        due.is("all of one row: of 1", x.odds(0, 1), 1);
        due.is("4 of 8 rows: 1", x.odds(1, 0), 1);
        due.is("4 of 8 rows: of 2", x.odds(1, 1), 2);
        due.is("20 of 64 rows: 5", x.odds(2, 0), 5);
        due.is("20 of 64 rows: of 16", x.odds(2, 1), 16);
    }
}
