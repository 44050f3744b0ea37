import java.lang.management.ManagementFactory;
import java.util.function.IntConsumer;

/** What an object makes, and the dearest calls: no call may make anything once its rows are there. */
public final class RoomTest {
    /** Three rows of effects and two of a search, each as long as there are lines, and some small ones. */
    private static final long MOST_BYTES = 5L * 7737 * 4 + 8000;
    private static int wrong;

    public static void main(String[] args) {
        MacroKeys x = Due.with("k;e3axb<;e3000h;e31101");
        Due.row(x, 1, 2, 3, 2, 1, 0, 3);
        Due.row(x, 2, 1, 10, 9, 8, 10, 9, 8, 10, 9, 8, 10, 9, 8, 10, 9, 8, 10, 9, 8, 10, 9);
        for (int r = 0; r < 8; r++) {
            x.reading(r % 3, 2);
        }
        makes("fewest", c -> x.fewest(1, 2, 0, 5, c % 20));
        makes("again", c -> x.again(c % 3, c % 2));
        makes("like", c -> x.like(10, c % 11));
        makes("still", c -> x.still(c % 11));
        makes("come", c -> x.come());
        makes("row", c -> x.row(2, 1, 0, 20, c % 5));
        makes("play", c -> x.play(c % 3));
        makes("timings", c -> x.timings(c % 3));
        makes("kinds", c -> x.kinds(c % 3));
        makes("odds", c -> x.odds(4, c % 2));
        makes("times", c -> x.times(c % 3, 1 + c % 3));
        makes("like of changed times", c -> x.times(0, 1 + c % 3 + 0 * x.like(9, 10)));
        makes("macros", c -> x.macros(3, 0, 0, 22));
        makes("sheet", c -> x.sheet(0, c % 3, c % 61));
        makes("copy", c -> x.copy(1, 0, 1, 1, 4));
        whole();
        System.out.println(wrong == 0 ? "the room is kept" : wrong + " calls make too much");
        if (wrong != 0) {
            System.exit(1);
        }
    }

    private static long bytes() {
        return ((com.sun.management.ThreadMXBean) ManagementFactory.getThreadMXBean()).getCurrentThreadAllocatedBytes();
    }

    private static void makes(String call, IntConsumer calls) {
        calls.accept(0);
        bytes();
        long before = bytes();
        for (int c = 0; c < 512; c++) {
            calls.accept(c);
        }
        long made = bytes() - before;
        if (made > 4000) {
            wrong++;
            System.out.println(call + ": 512 calls made " + made + " bytes");
        }
    }

    private static void whole() {
        int[] text = "k;p1a".chars().toArray();
        bytes();
        long before = bytes();
        MacroKeys x = new MacroKeys();
        long empty = bytes() - before;
        Due.row(x, 0, 0, text);
        x.macros(0, 0, 0, 5);
        x.like(8, 8);
        x.come();
        x.again(0, 0);
        x.fewest(0, 0, 0, 0, 0);
        long made = bytes() - before;
        if (made > MOST_BYTES || empty > 8000) {
            wrong++;
            System.out.println("an object makes " + empty + " bytes, with its searches " + made);
        }
    }
}
