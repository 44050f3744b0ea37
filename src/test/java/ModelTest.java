import java.util.ArrayDeque;
import java.util.ArrayList;
import java.util.Arrays;
import java.util.HashMap;
import java.util.HashSet;
import java.util.List;
import java.util.Map;
import java.util.Random;
import java.util.Set;
import java.util.function.Function;
import java.util.regex.Matcher;
import java.util.regex.Pattern;

/**
 * Long runs of calls on MacroKeys and on a model of it, written in another way from the document
 * alone (lines as texts, rows of objects, kinds as classes); all answers must be the same.
 */
public final class ModelTest {
    /** An object is used for at most so many calls, those that look at it counted. */
    private static final int CALLS = 512;
    private static final int RUNS = 600, LOOKS = 13;
    private static final String[] CALL_NAMES = {"macros", "ofMacro", "key", "times", "press", "play", "letter",
        "clear", "row", "fewest", "again", "like", "still", "come", "reading", "back", "timings", "kinds", "odds",
        "sheet", "lose", "put", "cell", "copy", "tell", "click", "as", "trace", "fault", "many"};
    private static int wrong;

    public static void main(String[] args) {
        for (int run = 0; run < RUNS && wrong < 10; run++) {
            new Run(run).go();
        }
        System.out.println(wrong == 0 ? "all answers are as the model's" : wrong + " answers are not");
        if (wrong != 0) {
            System.exit(1);
        }
    }

    /** One run on one object: random calls, and now and then a whole text, row or word. */
    private static final class Run {
        final int number;
        final Random random;
        final MacroKeys real = new MacroKeys();
        final Model model = new Model();
        final List<String> said = new ArrayList<>();
        int calls;
        boolean ended;
        boolean failed;

        Run(int number) {
            this.number = number;
            random = new Random(7919L * number + 1);
        }

        void go() {
            if (number % 8 != 0) {
                text();
            }
            while (!ended && !failed) {
                switch (random.nextInt(14)) {
                    case 0: if (random.nextInt(6) == 0) text(); break;
                    case 1: rowOf(11); break;
                    case 2: rowOf(4); break;
                    case 3: case 4: case 5: call(4, key8()); break;
                    case 6: call(5, random.nextInt(3)); break;
                    case 7: readings(); break;
                    default: any(); break;
                }
            }
        }

        void any() {
            int which = random.nextInt(CALL_NAMES.length);
            int costly = which == 11 || which == 12 || which == 13 || which == 9 ? 4 : 1;
            if (random.nextInt(costly) != 0) {
                return;
            }
            int sheet = number(-1, 4);
            int lane = kind();
            int i = number(-1, 4);
            int n = number(-1, 6);
            switch (which) {
                case 0: case 8: call(which, sheet, lane, i, n, number(-1, 15)); break;
                case 9: call(9, sheet, lane, i, n, number(-2, 21)); break;
                case 11: call(11, number(-1, 11), number(-1, 11)); break;
                case 12: call(12, number(-1, 11)); break;
                case 14: call(14, number(-1, 3), number(-1, 6)); break;
                case 15: call(15, number(-1, 3)); break;
                case 18: call(18, number(-1, 5), number(-1, 2)); break;
                case 19: call(19, sheet, lane, number(-1, 61)); break;
                case 20: call(20, random.nextInt(8) == 0 ? sheet : -1); break;
                case 21: call(21, sheet, i, random.nextBoolean() ? random.nextInt() : number(0, 11)); break;
                case 22: call(22, sheet, i, lane); break;
                case 23: call(23, sheet, i, number(-1, 4), number(-1, 4), number(-1, 5)); break;
                default: call(which, number(-1, 4), number(-1, 5)); break;
            }
        }

        int key8() {
            return random.nextInt(20) == 0 ? number(-1, 8) : random.nextInt(8);
        }

        int kind() {
            return random.nextInt(10) == 0 ? number(-1, 3) : random.nextInt(3);
        }

        int number(int from, int to) {
            if (random.nextInt(40) == 0) {
                int[] wide = {Integer.MIN_VALUE, Integer.MAX_VALUE, Integer.MIN_VALUE + 1, 1 << 30, -(1 << 30)};
                return wide[random.nextInt(wide.length)];
            }
            return from + random.nextInt(to - from + 1);
        }

        /** Readings that are often so: what a macro leaves by some times of it. */
        void readings() {
            int m = random.nextInt(3);
            call(14, m, random.nextInt(6));
            call(16, random.nextInt(3));
            call(17, random.nextInt(3));
            if (random.nextInt(3) == 0) {
                call(15, random.nextInt(4));
            }
        }

        void rowOf(int below) {
            int n = random.nextInt(below == 4 ? 6 : 10);
            int lane = random.nextInt(3);
            int ahead = random.nextInt(3);
            int most = below == 4 || random.nextBoolean() ? below : 8;
            call(19, 1, lane, ahead + n);
            for (int i = 0; i < n; i++) {
                call(21, 1, ahead + i, random.nextInt(40) == 0 ? number(-1, 11) : random.nextInt(most));
            }
            if (below == 4) {
                int steps = (int) call(9, 1, lane, ahead, n, -1);
                for (int k = 0; k <= Math.max(0, Math.min(steps, 20)); k++) {
                    call(9, 1, lane, ahead, n, k);
                }
            } else {
                int[] whats = {0, 1, 2, 3, 4, 10, 11, 12, 13, 14};
                for (int what : whats) {
                    call(8, 1, lane, ahead, n, what);
                }
            }
        }

        void text() {
            StringBuilder text = new StringBuilder("k");
            int macros = 1 + random.nextInt(3);
            for (int m = 0; m < macros; m++) {
                text.append(';').append("pbe".charAt(random.nextInt(3))).append(1 + random.nextInt(3));
                String keys = "abcd<>xh" + "01".repeat(3).replaceAll(m == 0 ? "." : m == 1 ? "1" : "#", "");
                int count = 1 + random.nextInt(4);
                for (int j = 0; j < count; j++) {
                    text.append(keys.charAt(random.nextInt(keys.length())));
                }
            }
            if (random.nextInt(3) == 0) {
                int p = random.nextInt(text.length());
                switch (random.nextInt(3)) {
                    case 0: text.setLength(p); break;
                    case 1: text.setCharAt(p, "kpbe;abcd<>xh0123456789 K".charAt(random.nextInt(25))); break;
                    default: text.insert(p, "kpbe;abcd<>xh0123456789 K".charAt(random.nextInt(25))); break;
                }
            }
            int lane = random.nextInt(3);
            int ahead = random.nextInt(4);
            call(19, 0, lane, ahead + text.length() + random.nextInt(2));
            for (int p = 0; p < text.length(); p++) {
                call(21, 0, ahead + p, text.charAt(p));
            }
            call(0, 0, lane, ahead, text.length());
        }

        long call(int which, int... args) {
            // Behind the last call there is room for one whole look.
            ended |= calls + 1 + LOOKS + LOOKS > CALLS;
            if (ended) {
                return 0;
            }
            int[] a = Arrays.copyOf(args, 5);
            calls++;
            long got = answer(real, which, a);
            long want = answer(model, which, a);
            said.add(CALL_NAMES[which] + Arrays.toString(a) + " " + got);
            same("", got, want);
            if (random.nextInt(6) == 0 || calls + 1 + LOOKS + LOOKS > CALLS) {
                look();
            }
            return want;
        }

        void look() {
            calls += LOOKS;
            same("fault", real.fault(), model.fault());
            same("trace", real.trace(), model.trace());
            for (int what = 0; what < 5; what++) {
                same("many " + what, real.many(what), model.many(what));
            }
            for (int i = 0; i < 5; i++) {
                same("letter " + i, real.letter(i), model.letter(i));
            }
        }

        void same(String what, long got, long want) {
            if (got != want && !failed) {
                failed = true;
                wrong++;
                System.out.println("run " + number + ": " + what + " answered " + got + ", the model " + want);
                System.out.println("  behind " + said.subList(Math.max(0, said.size() - 60), said.size()));
            }
        }
    }

    private static long answer(MacroKeys x, int which, int[] a) {
        switch (which) {
            case 0: return x.macros(a[0], a[1], a[2], a[3]);
            case 1: return x.ofMacro(a[0], a[1]);
            case 2: return x.key(a[0], a[1]);
            case 3: return x.times(a[0], a[1]);
            case 4: return x.press(a[0]);
            case 5: return x.play(a[0]);
            case 6: return x.letter(a[0]);
            case 7: return x.clear();
            case 8: return x.row(a[0], a[1], a[2], a[3], a[4]);
            case 9: return x.fewest(a[0], a[1], a[2], a[3], a[4]);
            case 10: return x.again(a[0], a[1]);
            case 11: return x.like(a[0], a[1]);
            case 12: return x.still(a[0]);
            case 13: return x.come();
            case 14: return x.reading(a[0], a[1]);
            case 15: return x.back(a[0]);
            case 16: return x.timings(a[0]);
            case 17: return x.kinds(a[0]);
            case 18: return x.odds(a[0], a[1]);
            case 19: return x.sheet(a[0], a[1], a[2]);
            case 20: return x.lose(a[0]);
            case 21: return x.put(a[0], a[1], a[2]);
            case 22: return x.cell(a[0], a[1], a[2]);
            case 23: return x.copy(a[0], a[1], a[2], a[3], a[4]);
            case 24: return x.tell(a[0]);
            case 25: return x.click(a[0]);
            case 26: return x.as(a[0], a[1]);
            case 27: return x.trace();
            case 28: return x.fault();
            default: return x.many(a[0]);
        }
    }

    private static long answer(Model x, int which, int[] a) {
        switch (which) {
            case 0: return x.macros(a[0], a[1], a[2], a[3]);
            case 1: return x.ofMacro(a[0], a[1]);
            case 2: return x.key(a[0], a[1]);
            case 3: return x.times(a[0], a[1]);
            case 4: return x.press(a[0]);
            case 5: return x.play(a[0]);
            case 6: return x.letter(a[0]);
            case 7: return x.clear();
            case 8: return x.row(a[0], a[1], a[2], a[3], a[4]);
            case 9: return x.fewest(a[0], a[1], a[2], a[3], a[4]);
            case 10: return x.again(a[0], a[1]);
            case 11: return x.like(a[0], a[1]);
            case 12: return x.still(a[0]);
            case 13: return x.come();
            case 14: return x.reading(a[0], a[1]);
            case 15: return x.back(a[0]);
            case 16: return x.timings(a[0]);
            case 17: return x.kinds(a[0]);
            case 18: return x.odds(a[0], a[1]);
            case 19: return x.sheet(a[0], a[1], a[2]);
            case 20: return x.lose(a[0]);
            case 21: return x.put(a[0], a[1], a[2]);
            case 22: return x.cell(a[0], a[1], a[2]);
            case 23: return x.copy(a[0], a[1], a[2], a[3], a[4]);
            case 24: return x.tell(a[0]);
            case 25: return x.click(a[0]);
            case 26: return x.as(a[0], a[1]);
            case 27: return x.trace();
            case 28: return x.fault();
            default: return x.many(a[0]);
        }
    }

    // ---- the model

    private interface Clicked {
        int keyCount();

        default int clicked(Model trail) {
            trail.mark(4);
            return keyCount();
        }
    }

    private static class Plain implements Clicked {
        int times;
        String keys;

        int kind() {
            return 0;
        }

        int often() {
            return times;
        }

        @Override
        public int keyCount() {
            return keys.length();
        }

        int told(Model trail) {
            return plainly(trail);
        }

        final int plainly(Model trail) {
            trail.mark(1);
            return times;
        }

        static Plain of(int kind, int times, String keys) {
            Plain made = kind == 0 ? new Plain() : kind == 1 ? new Broad() : new Even();
            made.times = times;
            made.keys = keys;
            return made;
        }
    }

    private static class Broad extends Plain {
        @Override
        int kind() {
            return 1;
        }

        @Override
        int often() {
            return times + 1;
        }

        @Override
        int told(Model trail) {
            trail.mark(2);
            return super.told(trail) + 100;
        }
    }

    private static final class Even extends Broad {
        @Override
        int kind() {
            return 2;
        }

        @Override
        int often() {
            return times * 2;
        }

        @Override
        int told(Model trail) {
            trail.mark(3);
            int broadly = super.told(trail);
            return broadly + plainly(trail);
        }

        @Override
        public int clicked(Model trail) {
            trail.mark(5);
            return 90;
        }
    }

    private static final class Model {
        static final Pattern TEXT = Pattern.compile("k;[pbe][123][abcd<>xh]{1,4}"
            + "(;[pbe][123][abcd<>xh0]{1,4}(;[pbe][123][abcd<>xh01]{1,4})?)?");
        static final String KEYS = "abcd<>xh012";
        static final List<String> LINES = lines();

        List<Plain> macros = new ArrayList<>();
        /** Letters, and | where the cursor is. */
        String line = "|";
        int pressed;
        int bumped;
        int trail;
        int met;
        List<int[]> readings = new ArrayList<>();
        final Object[] sheets = new Object[4];
        /** By key, what each line becomes; empty if a macro has changed. */
        final Map<Character, Map<String, String>> become = new HashMap<>();
        /** By line, those that become it by one key; by letters, how far each line is from them. */
        final Map<String, List<String>> ahead = new HashMap<>();
        final Map<String, Map<String, Integer>> fars = new HashMap<>();

        void forget() {
            become.clear();
            ahead.clear();
            fars.clear();
        }

        static List<String> lines() {
            List<String> words = new ArrayList<>(List.of(""));
            for (int w = 0; w < words.size(); w++) {
                if (words.get(w).length() < 5) {
                    for (char letter = 'a'; letter <= 'd'; letter++) {
                        words.add(words.get(w) + letter);
                    }
                }
            }
            List<String> all = new ArrayList<>();
            for (String word : words) {
                for (int at = 0; at <= word.length(); at++) {
                    all.add(word.substring(0, at) + "|" + word.substring(at));
                }
            }
            return all;
        }

        void mark(int body) {
            trail = trail * 31 + body;
        }

        static String plainKey(String line, char key) {
            int at = line.indexOf('|');
            String ahead = line.substring(0, at);
            String behind = line.substring(at + 1);
            switch (key) {
                case '<': return ahead.isEmpty() ? line
                    : ahead.substring(0, at - 1) + "|" + ahead.charAt(at - 1) + behind;
                case '>': return behind.isEmpty() ? line
                    : ahead + behind.charAt(0) + "|" + behind.substring(1);
                case 'x': return ahead.isEmpty() ? line : ahead.substring(0, at - 1) + "|" + behind;
                case 'h': return "|" + ahead + behind;
                default: return line.length() > 5 ? line : ahead + key + "|" + behind;
            }
        }

        /** Key by key, with what bumps counted. */
        String played(String from, char key) {
            if (key < '0' || key > '9') {
                String next = plainKey(from, key);
                bumped += next.equals(from) ? 1 : 0;
                return next;
            }
            Plain macro = macros.get(key - '0');
            String now = from;
            for (int r = 0; r < macro.often(); r++) {
                for (char each : macro.keys.toCharArray()) {
                    now = played(now, each);
                }
            }
            return now;
        }

        Map<String, String> becomes(char key) {
            Map<String, String> known = become.get(key);
            if (known != null) {
                return known;
            }
            Map<String, String> made = new HashMap<>();
            boolean plain = key < '0' || key > '9';
            Plain macro = plain ? null : macros.get(key - '0');
            for (String each : LINES) {
                String now = each;
                for (int r = 0; r < (plain ? 0 : macro.often()); r++) {
                    for (char part : macro.keys.toCharArray()) {
                        now = becomes(part).get(now);
                    }
                }
                made.put(each, plain ? plainKey(each, key) : now);
            }
            become.put(key, made);
            return made;
        }

        boolean known(int m) {
            return 0 <= m && m < macros.size();
        }

        int failed(int fault) {
            met = fault;
            return -10 - fault;
        }

        static int laneOf(Object row) {
            return row instanceof byte[] ? 0 : row instanceof short[] ? 1 : 2;
        }

        static int lengthOf(Object row) {
            return row instanceof byte[] bytes ? bytes.length
                : row instanceof short[] shorts ? shorts.length : ((int[]) row).length;
        }

        int faultOf(int sheet, int lane, int i, int n) {
            Object row = sheets[sheet];
            if (row != null && laneOf(row) != lane) {
                return 2;
            }
            if (row == null) {
                return 1;
            }
            if (n < 0) {
                return 4;
            }
            return i < 0 || (long) i + n > lengthOf(row) ? 3 : 0;
        }

        int cellOf(int sheet, int i) {
            // Not by reflect.Array.getInt: what JDK 17.0.15 compiles of it has crashed here.
            return sheets[sheet] instanceof byte[] bytes ? bytes[i]
                : sheets[sheet] instanceof short[] shorts ? shorts[i] : ((int[]) sheets[sheet])[i];
        }

        int macros(int sheet, int lane, int i, int n) {
            met = 0;
            if (sheet < 0 || sheet > 3) {
                return -1;
            }
            if (lane < 0 || lane > 2) {
                return -2;
            }
            int fault = faultOf(sheet, lane, i, n);
            if (fault != 0) {
                return failed(fault);
            }
            StringBuilder text = new StringBuilder();
            for (int p = 0; p < n; p++) {
                int code = cellOf(sheet, i + p);
                text.append(code < 0 || code > 127 ? '?' : (char) code);
                Matcher matcher = TEXT.matcher(text);
                if (!matcher.matches() && !matcher.hitEnd()) {
                    return -100 - p;
                }
            }
            if (!TEXT.matcher(text).matches()) {
                return -100 - n;
            }
            macros = new ArrayList<>();
            for (String part : text.substring(2).split(";")) {
                macros.add(Plain.of("pbe".indexOf(part.charAt(0)), part.charAt(1) - '0', part.substring(2)));
            }
            forget();
            line = "|";
            pressed = 0;
            readings.clear();
            return macros.size();
        }

        int presses(String keys) {
            int sum = 0;
            for (char key : keys.toCharArray()) {
                if (key >= '0' && key <= '9') {
                    Plain macro = macros.get(key - '0');
                    sum += macro.often() * presses(macro.keys);
                } else {
                    sum++;
                }
            }
            return sum;
        }

        int ofMacro(int m, int what) {
            if (!known(m)) {
                return -1;
            }
            Plain macro = macros.get(m);
            int[] all = {macro.kind(), macro.times, macro.often(), macro.keys.length(), presses("" + m)};
            return what < 0 || what > 4 ? -2 : all[what];
        }

        int key(int m, int i) {
            return !known(m) || i < 0 || i >= macros.get(m).keys.length() ? -1
                : KEYS.indexOf(macros.get(m).keys.charAt(i));
        }

        int times(int m, int v) {
            if (!known(m)) {
                return -1;
            }
            if (v < 1 || v > 3) {
                return -2;
            }
            int was = macros.get(m).times;
            macros.get(m).times = v;
            forget();
            return was;
        }

        int press(int key) {
            if (key < 0 || key > 7) {
                return -2;
            }
            bumped = 0;
            line = played(line, KEYS.charAt(key));
            pressed++;
            return 1 - bumped;
        }

        int play(int m) {
            if (!known(m)) {
                return -1;
            }
            bumped = 0;
            line = played(line, KEYS.charAt(8 + m));
            pressed++;
            return bumped;
        }

        static String letters(String line) {
            return line.replace("|", "");
        }

        int letter(int i) {
            String all = letters(line);
            return i < 0 || i >= all.length() ? -1 : all.charAt(i) - 'a';
        }

        int clear() {
            int had = line.length() - 1;
            line = "|";
            return had;
        }

        int row(int sheet, int lane, int i, int n, int what) {
            met = 0;
            if (sheet < 0 || sheet > 3) {
                return -1;
            }
            if (lane < 0 || lane > 2 || n < 0 || n > 20 || what < 0 || what > 14 || what > 4 && what < 10) {
                return -2;
            }
            int fault = faultOf(sheet, lane, i, n);
            if (fault != 0) {
                return failed(fault);
            }
            int highest = 0;
            for (int p = i; p < i + n; p++) {
                int cell = cellOf(sheet, p);
                if (cell < 0 || cell > 10) {
                    return -2;
                }
                highest = Math.max(highest, cell);
            }
            if (highest >= 8 + macros.size()) {
                return -1;
            }
            String now = line;
            int first = -9;
            bumped = 0;
            for (int p = 0; p < n; p++) {
                int before = bumped;
                int cell = cellOf(sheet, i + p);
                now = played(now, KEYS.charAt(cell));
                first = first == -9 && cell < 8 && bumped > before ? p : first;
            }
            String all = letters(now);
            StringBuilder digits = new StringBuilder("0");
            for (char letter : all.toCharArray()) {
                digits.append((char) (letter - 'a' + '1'));
            }
            switch (what) {
                case 0: return all.length();
                case 1: return now.indexOf('|');
                case 2: return first;
                case 3: return bumped;
                case 4: return Integer.parseInt(digits.toString());
                default: return what - 10 < all.length() ? all.charAt(what - 10) - 'a' : -9;
            }
        }

        /** By how far each line is from the letters: then the lowest key that comes nearer, each time. */
        int fewest(int sheet, int lane, int i, int n, int k) {
            met = 0;
            if (sheet < 0 || sheet > 3) {
                return -1;
            }
            if (lane < 0 || lane > 2 || n < 0 || n > 5 || k < -1 || k > 20) {
                return -2;
            }
            int fault = faultOf(sheet, lane, i, n);
            if (fault != 0) {
                return failed(fault);
            }
            StringBuilder goal = new StringBuilder();
            for (int p = i; p < i + n; p++) {
                int cell = cellOf(sheet, p);
                if (cell < 0 || cell > 3) {
                    return -2;
                }
                goal.append((char) ('a' + cell));
            }
            Map<String, Integer> far = farFrom(goal.toString());
            if (!far.containsKey(line)) {
                return -9;
            }
            if (k == -1) {
                return far.get(line);
            }
            String now = line;
            for (int place = 0; far.get(now) > 0; place++) {
                int key = 0;
                while (!nearer(far, now, key)) {
                    key++;
                }
                if (place == k) {
                    return key;
                }
                now = becomes(KEYS.charAt(key)).get(now);
            }
            return -9;
        }

        boolean nearer(Map<String, Integer> far, String now, int key) {
            Integer then = far.get(becomes(KEYS.charAt(key)).get(now));
            return then != null && then == far.get(now) - 1;
        }

        Map<String, Integer> farFrom(String goal) {
            if (!fars.containsKey(goal)) {
                fars.put(goal, farFromAnew(goal));
            }
            return fars.get(goal);
        }

        Map<String, Integer> farFromAnew(String goal) {
            if (ahead.isEmpty()) {
                for (int key = 0; key < 8 + macros.size(); key++) {
                    for (Map.Entry<String, String> step : becomes(KEYS.charAt(key)).entrySet()) {
                        ahead.computeIfAbsent(step.getValue(), to -> new ArrayList<>()).add(step.getKey());
                    }
                }
            }
            Map<String, Integer> far = new HashMap<>();
            ArrayDeque<String> todo = new ArrayDeque<>();
            for (String each : LINES) {
                if (letters(each).equals(goal)) {
                    far.put(each, 0);
                    todo.add(each);
                }
            }
            while (!todo.isEmpty()) {
                String now = todo.poll();
                for (String from : ahead.getOrDefault(now, List.of())) {
                    if (far.putIfAbsent(from, far.get(now) + 1) == null) {
                        todo.add(from);
                    }
                }
            }
            return far;
        }

        int again(int m, int what) {
            if (!known(m)) {
                return -1;
            }
            if (what < 0 || what > 1) {
                return -2;
            }
            List<String> seen = new ArrayList<>();
            String now = line;
            while (!seen.contains(now)) {
                seen.add(now);
                now = played(now, KEYS.charAt(8 + m));
            }
            int ahead = seen.indexOf(now);
            return what == 0 ? ahead : seen.size() - ahead;
        }

        boolean noKey(int key) {
            return key < 0 || key >= 8 + macros.size();
        }

        int linesWhere(Function<String, Boolean> so) {
            int sum = 0;
            for (String each : LINES) {
                sum += so.apply(each) ? 1 : 0;
            }
            return sum;
        }

        int like(int key, int other) {
            if (noKey(key) || noKey(other)) {
                return -1;
            }
            Map<String, String> one = becomes(KEYS.charAt(key));
            Map<String, String> two = becomes(KEYS.charAt(other));
            return linesWhere(each -> one.get(each).equals(two.get(each)));
        }

        int still(int key) {
            if (noKey(key)) {
                return -1;
            }
            Map<String, String> one = becomes(KEYS.charAt(key));
            return linesWhere(each -> one.get(each).equals(each));
        }

        int come() {
            Set<String> all = new HashSet<>(Set.of(line));
            List<String> todo = new ArrayList<>(all);
            while (!todo.isEmpty()) {
                String now = todo.remove(todo.size() - 1);
                for (int m = 0; m < macros.size(); m++) {
                    String next = becomes(KEYS.charAt(8 + m)).get(now);
                    if (all.add(next)) {
                        todo.add(next);
                    }
                }
            }
            return all.size();
        }

        int reading(int m, int letters) {
            if (!known(m)) {
                return -1;
            }
            if (letters < 0 || letters > 5) {
                return -2;
            }
            if (readings.size() == 8) {
                return -4;
            }
            readings.add(new int[] {m, letters});
            return readings.size() - 1;
        }

        int back(int n) {
            if (n < 0 || n > readings.size()) {
                return -2;
            }
            readings = new ArrayList<>(readings.subList(0, readings.size() - n));
            return readings.size();
        }

        boolean allSo(int m, Plain other) {
            Plain kept = macros.set(m, other);
            boolean so = true;
            for (int[] each : readings) {
                so &= played("|", KEYS.charAt(8 + each[0])).length() - 1 == each[1];
            }
            macros.set(m, kept);
            return so;
        }

        int timings(int m) {
            if (!known(m)) {
                return -1;
            }
            int set = 0;
            for (int v = 1; v < 4; v++) {
                set |= allSo(m, Plain.of(macros.get(m).kind(), v, macros.get(m).keys)) ? 1 << v : 0;
            }
            return set;
        }

        int kinds(int m) {
            if (!known(m)) {
                return -1;
            }
            int set = 0;
            for (int v = 0; v < 3; v++) {
                set |= allSo(m, Plain.of(v, macros.get(m).times, macros.get(m).keys)) ? 1 << v : 0;
            }
            return set;
        }

        long odds(int n, int which) {
            if (n < 0 || n > 4 || which < 0 || which > 1) {
                return Long.MIN_VALUE;
            }
            int all = (int) Math.pow(8, n);
            int empty = 0;
            for (int row = 0; row < all; row++) {
                String now = line;
                for (int p = 0, rest = row; p < n; p++, rest /= 8) {
                    now = plainKey(now, KEYS.charAt(rest % 8));
                }
                empty += now.equals("|") ? 1 : 0;
            }
            int divisor = java.math.BigInteger.valueOf(empty).gcd(java.math.BigInteger.valueOf(all)).intValue();
            return which == 0 ? empty / divisor : all / divisor;
        }

        int sheet(int k, int lane, int n) {
            met = 0;
            if (k < 0 || k > 3) {
                return -1;
            }
            if (lane < 0 || lane > 2 || n > 60) {
                return -2;
            }
            if (n < 0) {
                return failed(4);
            }
            sheets[k] = lane == 0 ? new byte[n] : lane == 1 ? new short[n] : new int[n];
            return 1;
        }

        int lose(int k) {
            if (k < 0 || k > 3) {
                return -1;
            }
            int had = sheets[k] == null ? 0 : 1;
            sheets[k] = null;
            return had;
        }

        int put(int k, int i, int v) {
            met = 0;
            if (k < 0 || k > 3) {
                return -1;
            }
            if (sheets[k] == null) {
                return failed(1);
            }
            if (i < 0 || i >= lengthOf(sheets[k])) {
                return failed(3);
            }
            if (sheets[k] instanceof byte[] bytes) {
                bytes[i] = (byte) v;
            } else if (sheets[k] instanceof short[] shorts) {
                shorts[i] = (short) v;
            } else {
                ((int[]) sheets[k])[i] = v;
            }
            return 1;
        }

        long cell(int k, int i, int lane) {
            met = 0;
            if (k < 0 || k > 3 || lane < 0 || lane > 2) {
                return Long.MIN_VALUE;
            }
            met = faultOf(k, lane, i, 1);
            return met == 0 ? cellOf(k, i) : Long.MIN_VALUE;
        }

        int copy(int k, int i, int other, int j, int n) {
            met = 0;
            if (k < 0 || k > 3 || other < 0 || other > 3) {
                return -1;
            }
            if (sheets[k] == null || sheets[other] == null) {
                return failed(1);
            }
            try {
                System.arraycopy(sheets[k], i, sheets[other], j, n);
            } catch (ArrayStoreException e) {
                return failed(2);
            } catch (IndexOutOfBoundsException e) {
                return failed(3);
            }
            return n;
        }

        int tell(int m) {
            return known(m) ? macros.get(m).told(this) : -1;
        }

        int click(int m) {
            return known(m) ? macros.get(m).clicked(this) : -1;
        }

        int as(int m, int kind) {
            met = 0;
            if (!known(m)) {
                return -1;
            }
            if (kind < 0 || kind > 2) {
                return -2;
            }
            Class<?>[] classes = {Plain.class, Broad.class, Even.class};
            return classes[kind].isInstance(macros.get(m)) ? 1 : failed(2);
        }

        int trace() {
            return trail;
        }

        int fault() {
            return met;
        }

        int many(int what) {
            int[] all = {macros.size(), line.length() - 1, line.indexOf('|'), pressed, readings.size()};
            return what < 0 || what > 4 ? -2 : all[what];
        }
    }
}
