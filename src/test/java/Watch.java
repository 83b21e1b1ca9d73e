import java.util.ArrayList;
import java.util.List;

/**
 * What an object tells of itself, a line for each call. Some of the calls take the object apart, and some are refused
 * themselves, so each view of it wants an object of its own: what one view's calls did wrong cannot hide what is asked
 * in another.
 */
final class Watch {
    enum View {
        SETTINGS, LATEST_CUTS, CUTS, PLACES, VOWELS, VERSES, NOTES, RESTS
    }

    /** A call with its arguments (0 where it has none) and its answer, or the class that it threw. */
    private record Line(String call, int a, int b, int c, Object answer) {
    }

    private static final int VERSES = 4;
    private static final int MOST_CUTS = 24;
    private static final int WATCHED_FAULTS = 12;
    private static final int[] OTHER_WORD = {2, 1, 1, 2, 2, 1, 2};

    private final WordRows rows;
    private final List<Line> lines = new ArrayList<>();
    private final int noteCount;
    private int left;

    private Watch(WordRows rows, int calls) {
        this.rows = rows;
        left = calls - 1;
        noteCount = rows.told(0);
    }

    /** Makes at most so many calls, as an object is good for 512 only. */
    static List<?> tell(View view, WordRows rows, int calls) {
        Watch watch = new Watch(rows, calls);
        switch (view) {
            case SETTINGS -> watch.tellSettings();
            case LATEST_CUTS -> watch.tellLatestCuts();
            case CUTS -> watch.tellCuts();
            case PLACES -> watch.tellPlaces();
            case VOWELS -> watch.tellVowels();
            case VERSES -> watch.tellVerses();
            case NOTES -> watch.tellNotes();
            case RESTS -> watch.tellRests();
        }
        return watch.lines;
    }

    private int ask(Checks.Call toMake, String call, int a, int b, int c) {
        if (left <= 0) {
            return WordRows.UNKNOWN;
        }
        left--;
        try {
            int answer = toMake.answer();
            lines.add(new Line(call, a, b, c, answer));
            return answer;
        } catch (RuntimeException e) {
            lines.add(new Line(call, a, b, c, e.getClass()));
            return WordRows.UNKNOWN;
        }
    }

    private int ask(Checks.Call toMake, String call, int a, int b) {
        return ask(toMake, call, a, b, 0);
    }

    private int ask(Checks.Call toMake, String call, int a) {
        return ask(toMake, call, a, 0, 0);
    }

    private int ask(Checks.Call toMake, String call) {
        return ask(toMake, call, 0, 0, 0);
    }

    private void tellCounts() {
        for (int what = 0; what < 8; what++) {
            int asked = what;
            ask(() -> rows.told(asked), "told", asked);
        }
    }

    private void tellSettings() {
        tellCounts();
        ask(() -> rows.limit(100), "limit", 100);
        ask(() -> rows.sides(0, 1), "sides", 0, 1);
        ask(() -> rows.sides(1, 1), "sides", 1, 1);
        for (int v = 0; v < VERSES; v++) {
            int verse = v;
            ask(() -> rows.align(verse, 0), "align", verse, 0);
            ask(() -> rows.translation(verse, false), "translation", verse);
        }
        for (int i = 0; i < noteCount; i++) {
            int note = i;
            ask(() -> rows.chord(note, 0), "chord", note, 0);
            for (int v = 0; v < VERSES; v++) {
                int verse = v;
                ask(() -> rows.wipe(note, verse), "wipe", note, verse);
            }
        }
    }

    /** Up to the first that is not there. */
    private void tellLatestCuts() {
        int i = 0;
        while (i < MOST_CUTS && tellCut(i) != WordRows.UNKNOWN) {
            i++;
        }
    }

    private int tellCut(int i) {
        return ask(() -> rows.cut(i), "cut", i);
    }

    private void tellCuts() {
        tellCutsNow();
        ask(() -> rows.sides(0, 1), "sides", 0, 1);
        ask(() -> rows.sides(1, 1), "sides", 1, 1);
        tellCutsNow();
        ask(() -> rows.letter(1), "letter", 1);
        tellCutsNow();
        ask(() -> rows.letter(0), "letter", 0);
        for (int c : OTHER_WORD) {
            ask(() -> rows.letter(c), "letter", c);
        }
        tellCutsNow();
        ask(() -> rows.pattern(1, 0), "pattern", 1, 0);
    }

    private void tellCutsNow() {
        int found = ask(rows::cuts, "cuts");
        for (int i = 0; i < found; i++) {
            tellCut(i);
        }
    }

    /** Of a long row of notes its beginning and its end are enough. */
    private boolean isWatched(int note) {
        return note < 5 || note >= noteCount - 4;
    }

    private void tellPlaces() {
        ask(() -> rows.told(7), "told", 7);
        for (int i = 0; i < noteCount; i++) {
            int note = i;
            ask(() -> rows.x(note, 0), "x", note, 0);
            ask(() -> rows.x(note, 1), "x", note, 1);
        }
        for (int i = 0; i < noteCount; i++) {
            for (int v = 0; v < VERSES && isWatched(i); v++) {
                tellBox(i, v);
            }
        }
        ask(rows::strain, "strain");
    }

    private void tellBox(int note, int verse) {
        if (ask(() -> rows.box(note, verse, 0), "box", note, verse, 0) < 0) {
            return;
        }
        for (int what = 1; what < 5; what++) {
            int asked = what;
            ask(() -> rows.box(note, verse, asked), "box", note, verse, asked);
        }
        ask(() -> rows.hyphens(note, verse), "hyphens", note, verse);
        ask(() -> rows.hyphen(note, verse, 0), "hyphen", note, verse, 0);
        ask(() -> rows.line(note, verse, 0), "line", note, verse, 0);
        ask(() -> rows.line(note, verse, 1), "line", note, verse, 1);
    }

    /** Set by vowels, the boxes tell them. */
    private void tellVowels() {
        for (int v = 0; v < VERSES; v++) {
            int verse = v;
            ask(() -> rows.align(verse, 2), "align", verse, 2);
            ask(() -> rows.translation(verse, false), "translation", verse);
        }
        ask(rows::place, "place");
        for (int i = 0; i < noteCount; i++) {
            for (int v = 0; v < VERSES; v++) {
                int note = i;
                int verse = v;
                ask(() -> rows.box(note, verse, 0), "box", note, verse, 0);
            }
        }
    }

    private void tellVerses() {
        for (int v = 0; v < VERSES; v++) {
            int verse = v;
            ask(() -> rows.shares(verse), "shares", verse);
            ask(() -> rows.row(verse), "row", verse);
        }
        int found = ask(rows::faults, "faults");
        for (int i = 0; i < Math.min(found, WATCHED_FAULTS); i++) {
            for (int what = 0; what < 3; what++) {
                int fault = i;
                int asked = what;
                ask(() -> rows.fault(fault, asked), "fault", fault, asked);
            }
        }
    }

    /** Without chords and with translations alone the places tell widths and lengths. */
    private void tellNotes() {
        for (int v = 0; v < VERSES; v++) {
            int verse = v;
            ask(() -> rows.translation(verse, true), "translation", verse);
        }
        for (int i = 0; i < noteCount; i++) {
            int note = i;
            ask(() -> rows.in(note, 0), "in", note, 0);
            ask(() -> rows.in(note, 1), "in", note, 1);
            ask(() -> rows.chord(note, 0), "chord", note, 0);
        }
        int end = ask(() -> rows.note(10, 1, false), "note", 10, 1);
        ask(() -> rows.limit(100), "limit", 100);
        ask(rows::place, "place");
        for (int i = 0; i <= Math.max(end, noteCount - 1); i++) {
            int note = i;
            ask(() -> rows.x(note, 0), "x", note, 0);
        }
    }

    /** A rest takes no word. */
    private void tellRests() {
        for (int i = 0; i < noteCount; i++) {
            int note = i;
            ask(() -> rows.syllable(note, 0, 1, 0, false), "syllable", note, 0);
        }
    }
}
