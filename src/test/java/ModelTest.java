import java.lang.reflect.InvocationTargetException;
import java.lang.reflect.Method;
import java.util.ArrayList;
import java.util.Arrays;
import java.util.HashMap;
import java.util.List;
import java.util.Map;
import java.util.Random;
import java.util.TreeMap;

/** Long runs of calls, always the same ones, each answer held against that of PlainRows. */
public final class ModelTest {
    private static final int RUNS = 1500;
    private static final int CALLS = 512;
    private static final int[] EXTREMES = {Integer.MIN_VALUE, -1000000, -2, -1, 61, 1000, 1 << 30, Integer.MAX_VALUE};
    private static final int[] WIDTHS = {1, 2, 5, 9, 14, 25, 40, 77, 120, 200};
    private static final List<String> TELLING = List.of("x", "box", "box", "hyphens", "hyphen", "hyphen", "line",
            "line", "strain", "faults", "fault", "shares", "row", "in", "told");
    private static final List<String> SETTING = List.of("note", "syllable", "syllable", "syllable", "wipe", "chord",
            "melisma", "refrain", "align", "translation", "limit");
    private static final List<String> CUTTING = List.of("pattern", "letter", "letter", "letter", "sides", "cuts",
            "cut");

    private static final Map<String, Method> realMethods = new HashMap<>();
    private static final Map<String, Method> plainMethods = new HashMap<>();
    private static final Map<String, Integer> answered = new TreeMap<>();
    private static final Checks checks = new Checks();

    private final Random random;
    private final WordRows real = new WordRows();
    private final PlainRows plain = new PlainRows();
    private final List<String> log = new ArrayList<>();
    private final int wantedNotes;
    private final boolean versesAlike;
    private int left = CALLS;
    private boolean isWrong;

    private ModelTest(long seed) {
        random = new Random(seed);
        wantedNotes = oneIn(6) ? 60 : 1 + random.nextInt(10);
        versesAlike = oneIn(3);
    }

    public static void main(String[] args) throws IllegalAccessException {
        for (Method method : WordRows.class.getMethods()) {
            if (method.getDeclaringClass() == WordRows.class) {
                realMethods.put(method.getName(), method);
            }
        }
        for (Method method : PlainRows.class.getDeclaredMethods()) {
            if (realMethods.containsKey(method.getName())) {
                plainMethods.put(method.getName(), method);
            }
        }
        for (int run = 0; run < RUNS; run++) {
            new ModelTest(run).runAll();
        }
        for (String name : realMethods.keySet()) {
            checks.isTrue(name + " was answered", answered.getOrDefault(name, 0) > 0);
        }
        checks.end();
    }

    private void runAll() throws IllegalAccessException {
        while (left > 0 && !isWrong) {
            if (oneIn(400)) {
                both("clear");
            } else if (plain.told(0) < wantedNotes && oneIn(2)) {
                both("note", width(), length(), oneIn(8));
            } else if (oneIn(5)) {
                cutting();
            } else if (oneIn(3)) {
                setting();
                sing();
            } else {
                telling();
            }
        }
    }

    private void setting() throws IllegalAccessException {
        String name = pick(SETTING);
        switch (name) {
            case "note" -> both(name, width(), length(), oneIn(8));
            case "syllable" -> sing();
            case "wipe" -> both(name, note(), verse());
            case "chord" -> both(name, note(), oneIn(4) ? 0 : width());
            case "melisma" -> both(name, note(), oneIn(8) ? number(-1, 22) : number(2, 4));
            case "refrain" -> both(name, note(), oneIn(8) ? number(-1, 61) : number(1, 4));
            case "align" -> both(name, verse(), what(2));
            case "translation" -> both(name, verse(), oneIn(2));
            default -> both(name, oneIn(4) ? number(98, 102) : oneIn(4) ? number(29998, 30002) : number(100, 900));
        }
    }

    private void sing() throws IllegalAccessException {
        int note = note();
        int w = width();
        int vowel = w > 0 && w <= 200 && !oneIn(10) ? random.nextInt(w + 1) : number(-1, 200);
        boolean goesOn = oneIn(2);
        if (!versesAlike) {
            both("syllable", note, verse(), w, vowel, goesOn);
            return;
        }
        for (int v = 0; v < 4; v++) {
            if (!oneIn(60)) {
                both("syllable", note, v, w, vowel, goesOn);
            }
        }
    }

    private void telling() throws IllegalAccessException {
        if (plain.told(7) == 0 && oneIn(2)) {
            both("place");
        }
        String name = pick(TELLING);
        switch (name) {
            case "x", "in" -> both(name, note(), what(1));
            case "box", "hyphens", "hyphen", "line" -> tellingOfBox(name, oneIn(3) ? lineNote() : note());
            case "strain", "faults" -> both(name);
            case "fault" -> both(name, oneIn(20) ? extreme() : random.nextInt(plain.faults() + 1), what(2));
            case "shares", "row" -> both(name, verse());
            default -> both(name, what(7));
        }
    }

    private void tellingOfBox(String name, int wanted) throws IllegalAccessException {
        int note = wanted;
        int verse = verse();
        for (int tries = 0; tries < 10 && !isBox(note, verse) && !oneIn(20); tries++) {
            note = note();
            verse = verse();
        }
        switch (name) {
            case "box" -> both(name, note, verse, what(4));
            case "hyphens" -> both(name, note, verse);
            case "hyphen" -> both(name, note, verse, oneIn(20) ? extreme() : number(0, 2));
            default -> both(name, note, verse, what(1));
        }
    }

    /** Of a box, a wrong what is OUTSIDE; without one the note or the verse is UNKNOWN. */
    private boolean isBox(int note, int verse) {
        return plain.box(note, verse, -1) == WordRows.OUTSIDE;
    }

    private void cutting() throws IllegalAccessException {
        String name = pick(CUTTING);
        switch (name) {
            case "pattern" -> both(name, signs(), oneIn(3) ? number(0, 10000000) : number(0, 99));
            case "letter" -> both(name, oneIn(40) ? 0 : oneIn(30) ? number(-1, 28) : number(1, 3));
            case "sides" -> both(name, what(1), oneIn(5) ? number(-1, 26) : number(1, 4));
            case "cuts" -> both(name);
            default -> both(name, oneIn(20) ? extreme() : number(0, 6));
        }
    }

    private long signs() {
        if (oneIn(20)) {
            return random.nextLong();
        }
        int n = oneIn(5) ? number(0, 7) : number(1, 3);
        long all = 0;
        for (int j = n - 1; j >= 0; j--) {
            boolean isAtEdge = j == 0 || j == n - 1;
            int sign = isAtEdge && oneIn(4) ? 27 : oneIn(60) ? random.nextInt(32) : number(1, 3);
            all = all << 5 | sign;
        }
        return oneIn(60) ? all | 1L << number(30, 63) : all;
    }

    private int lineNote() {
        int note = note();
        int first = plain.in(note, 0);
        return first >= 0 && !oneIn(4) ? first : note;
    }

    private int note() {
        int count = plain.told(0);
        return oneIn(30) ? extreme() : oneIn(30) ? count : random.nextInt(Math.max(1, count));
    }

    private int verse() {
        return oneIn(40) ? extreme() : oneIn(40) ? 4 : random.nextInt(4);
    }

    private int width() {
        return oneIn(40) ? extreme() : oneIn(40) ? 201 : oneIn(40) ? 0 : WIDTHS[random.nextInt(WIDTHS.length)];
    }

    private int length() {
        return oneIn(30) ? number(-1, 66) : oneIn(6) ? number(1, 64) : number(1, 5);
    }

    private int what(int most) {
        return oneIn(30) ? extreme() : oneIn(30) ? most + 1 : random.nextInt(most + 1);
    }

    private int number(int least, int most) {
        return least + random.nextInt(most - least + 1);
    }

    private int extreme() {
        return EXTREMES[random.nextInt(EXTREMES.length)];
    }

    private boolean oneIn(int n) {
        return random.nextInt(n) == 0;
    }

    private String pick(List<String> names) {
        return names.get(random.nextInt(names.size()));
    }

    private void both(String name, Object... args) throws IllegalAccessException {
        if (left == 0 || isWrong) {
            return;
        }
        left--;
        String want = answer(plainMethods.get(name), plain, args);
        String got = answer(realMethods.get(name), real, args);
        log.add(name + Arrays.toString(args) + " = " + want);
        answered.merge(name, want.startsWith("-10000") ? 0 : 1, Integer::sum);
        isWrong = !want.equals(got);
        checks.isTrue(isWrong ? String.join("; ", log) + " but it answered " + got : name, !isWrong);
    }

    private static String answer(Method method, Object rows, Object[] args) throws IllegalAccessException {
        try {
            return method.invoke(rows, args).toString();
        } catch (InvocationTargetException e) {
            boolean isOfTheMachine = !(e.getCause() instanceof RuntimeException)
                    || Checks.isOfTheMachine((RuntimeException) e.getCause());
            return e.getCause().getClass().getName() + (isOfTheMachine ? " of the machine" : "");
        }
    }
}
