import java.lang.reflect.InvocationTargetException;
import java.lang.reflect.Method;
import java.util.Arrays;
import java.util.Comparator;
import java.util.List;

/**
 * What the tests of single sentences lean on. Each method of such a test without parameters is the test of one
 * sentence of the document, which it names first; each call is made on a new object with a past of its own.
 */
abstract class Edges {
    static final int UNKNOWN = -1000001, OUTSIDE = -1000002, STATE = -1000003, ROOM = -1000004, NONE = -1000009;
    static final int LOW = Integer.MIN_VALUE, HIGH = Integer.MAX_VALUE;
    private static final int MOST_CALLS = 512;
    /** More than any past below has. */
    private static final int CALLS_OF_PAST = 130;

    interface Past {
        void goes(WordRows rows);
    }

    interface Ask {
        int of(WordRows rows);
    }

    private static final Checks checks = new Checks();
    private static String sentence;

    /** Runs each test of a sentence, by its name; one that names no sentence fails. */
    static void runAll(Class<? extends Edges> tests) {
        Method[] methods = tests.getDeclaredMethods();
        Arrays.sort(methods, Comparator.comparing(Method::getName));
        int sentences = 0;
        for (Method method : methods) {
            if (method.getParameterCount() == 0 && method.getReturnType() == void.class) {
                sentence = null;
                run(method);
                checks.isTrue(method.getName() + " names its sentence", sentence != null);
                sentences++;
            }
        }
        System.out.println(sentences + " sentences");
        checks.end();
    }

    private static void run(Method method) {
        try {
            method.invoke(null);
        } catch (IllegalAccessException | InvocationTargetException e) {
            checks.isTrue(method.getName() + " ends: " + e + ", " + e.getCause(), false);
        }
    }

    static void says(String promiseAndSentence) {
        sentence = promiseAndSentence;
    }

    static void due(String what, int got, int want) {
        checks.due(sentence + " | " + what, got, want);
    }

    static WordRows after(Past past) {
        WordRows rows = new WordRows();
        past.goes(rows);
        return rows;
    }

    static void taken(String what, Past past, Ask ask, int want) {
        due(what, ask.of(after(past)), want);
    }

    /**
     * The answer is due, and nothing has changed: a twin without the call tells the same of itself. Whether places are
     * told matters to no refusal but STATE, which is answered without them in any case.
     */
    static void refused(String what, Past past, Ask ask, int want) {
        refusedOnce(what, past, ask, want);
        if (want != NONE) {
            refusedOnce(what + ", without places", both(past, Edges::endPlaces), ask, want);
        }
        if (want == UNKNOWN || want == OUTSIDE || want == ROOM) {
            refusedOnce(what + ", with places", both(past, WordRows::place), ask, want);
        }
    }

    private static void refusedOnce(String what, Past past, Ask ask, int want) {
        taken(what, past, ask, want);
        changesNothing(what, past, ask::of);
    }

    static void refusedIndex(String what, Past past, Ask ask) {
        WordRows rows = after(past);
        checks.throwsIndex(sentence + " | " + what, () -> ask.of(rows));
        changesNothing(what, past, r -> throwsAway(r, ask));
    }

    static void refusedArithmetic(String what, Past past, Ask ask) {
        WordRows rows = after(past);
        checks.throwsArithmetic(sentence + " | " + what, () -> ask.of(rows));
        changesNothing(what, past, r -> throwsAway(r, ask));
    }

    static void throwsAway(WordRows rows, Ask ask) {
        try {
            ask.of(rows);
        } catch (ArrayIndexOutOfBoundsException | ArithmeticException e) {
            return;
        }
    }

    static void changesNothing(String what, Past past, Past call) {
        tellAlike(what + " changes nothing", both(past, call), past);
    }

    /** Objects with the one past tell in each view the same as those with the other. */
    static void tellAlike(String what, Past one, Past other) {
        for (Watch.View view : Watch.View.values()) {
            List<?> got = Watch.tell(view, after(one), MOST_CALLS - CALLS_OF_PAST);
            List<?> want = Watch.tell(view, after(other), MOST_CALLS - CALLS_OF_PAST);
            boolean isSame = got.equals(want);
            checks.isTrue(isSame ? what : sentence + " | " + what + ": " + parting(got, want), isSame);
        }
    }

    private static String parting(List<?> got, List<?> want) {
        int same = 0;
        while (same < got.size() && same < want.size() && got.get(same).equals(want.get(same))) {
            same++;
        }
        return got.subList(same, Math.min(same + 1, got.size())) + ", not "
                + want.subList(same, Math.min(same + 1, want.size()));
    }

    // ---- pasts

    static void nothing(WordRows rows) {
    }

    /** A call that is done ends the places; the limit stays as it was. */
    private static void endPlaces(WordRows rows) {
        rows.limit(rows.limit(100));
    }

    static Past notes(int n) {
        return rows -> {
            for (int i = 0; i < n; i++) {
                rows.note(10, 1, false);
            }
        };
    }

    static Past both(Past first, Past second) {
        return rows -> {
            first.goes(rows);
            second.goes(rows);
        };
    }

    /** Eight notes, 2 a rest, 3 and 4 a melisma, 5 a refrain, 7 without words; words of all kinds; no places. */
    static void unplacedSong(WordRows rows) {
        rows.note(20, 4, false);
        rows.note(30, 2, false);
        rows.note(12, 1, true);
        rows.note(40, 9, false);
        rows.note(25, 8, false);
        rows.note(15, 3, false);
        rows.note(35, 2, false);
        rows.note(18, 5, false);
        rows.melisma(3, 2);
        rows.refrain(5, 1);
        rows.syllable(0, 0, 20, 10, true);
        rows.syllable(1, 0, 60, 60, false);
        rows.syllable(1, 0, 20, 0, true);
        rows.syllable(3, 0, 33, 5, false);
        rows.syllable(5, 0, 44, 11, true);
        rows.syllable(0, 1, 21, 9, true);
        rows.syllable(6, 1, 17, 3, true);
        rows.syllable(1, 2, 70, 2, true);
        rows.syllable(3, 2, 9, 8, false);
        rows.syllable(0, 3, 21, 9, true);
        rows.syllable(6, 3, 17, 3, true);
        rows.align(0, 1);
        rows.align(2, 2);
        rows.translation(2, true);
        rows.chord(0, 170);
        rows.chord(3, 15);
        rows.limit(300);
        rows.pattern(34, 102);
        rows.pattern(1, 3);
        rows.sides(0, 1);
        rows.sides(1, 2);
        for (int i = 0; i < 9; i++) {
            rows.letter(1 + i % 2);
        }
        rows.cuts();
    }

    static void song(WordRows rows) {
        unplacedSong(rows);
        rows.place();
    }

    /** A song of sixty notes. */
    static void longSong(WordRows rows) {
        unplacedSong(rows);
        for (int i = 8; i < 60; i++) {
            rows.note(10 + i, 1 + i % 3, i % 7 == 0);
        }
        rows.place();
    }

    /** One note at 0, as its words are those of a translation alone, and all else that there can be. */
    static void shortSong(WordRows rows) {
        songWithoutNotes(rows);
        rows.note(33, 3, false);
        rows.syllable(0, 0, 20, 10, true);
        rows.syllable(0, 1, 30, 3, true);
        rows.translation(0, true);
        rows.chord(0, 9);
        rows.place();
    }

    static void songWithoutNotes(WordRows rows) {
        rows.align(3, 2);
        rows.align(1, 1);
        rows.translation(1, true);
        rows.limit(444);
        rows.pattern(1, 3);
        rows.sides(0, 1);
        rows.sides(1, 2);
        for (int i = 0; i < 5; i++) {
            rows.letter(1);
        }
        rows.cuts();
        rows.place();
    }
}
