/** Promises 18 to 22, 28 and 29: faults, verses that share, rows, what is told, and clear. */
public final class ToldTest {
    private static final int UNKNOWN = -1000001, OUTSIDE = -1000002, STATE = -1000003, NONE = -1000009;
    private static final int LOW = Integer.MIN_VALUE, HIGH = Integer.MAX_VALUE;
    private static final Checks checks = new Checks();

    public static void main(String[] args) {
        noFaults();
        lackingBoxes();
        goingNowhere();
        faultRefusals();
        manyFaults();
        sharing();
        sharingBesideRefrains();
        rows();
        in();
        told();
        clear();
        clearLeavesNothing();
        checks.end();
    }

    private static void due(String call, int got, int want) {
        checks.due(call, got, want);
    }

    private static void isFault(WordRows rows, int i, int which, int verse, int note) {
        due("19: which of " + i, rows.fault(i, 0), which);
        due("19: the verse of " + i, rows.fault(i, 1), verse);
        due("19: the note of " + i, rows.fault(i, 2), note);
    }

    private static void noFaults() {
        WordRows rows = Checks.withNotes(3);
        due("18: verses without boxes have none", rows.faults(), 0);
        rows.syllable(0, 0, 5, 0, true);
        rows.syllable(1, 0, 5, 0, true);
        rows.syllable(2, 0, 5, 0, false);
        due("18: all is well", rows.faults(), 0);
        due("19: none", rows.fault(0, 0), UNKNOWN);
        rows.wipe(0, 0);
        due("18: no placing is wanted", rows.faults(), 1);
    }

    private static void lackingBoxes() {
        WordRows rows = Checks.withNotes(5);
        rows.note(10, 1, true);
        rows.note(10, 1, false);
        rows.melisma(1, 2);
        rows.refrain(3, 2);
        rows.syllable(6, 2, 5, 0, false);
        due("18: verse 2 lacks 0 and 1", rows.faults(), 2);
        isFault(rows, 0, 1, 2, 0);
        isFault(rows, 1, 1, 2, 1);
        rows.syllable(0, 0, 5, 0, false);
        due("18: verse 0 lacks 1, 3, 4, 6 too", rows.faults(), 6);
        isFault(rows, 0, 1, 0, 1);
        isFault(rows, 1, 1, 0, 3);
        isFault(rows, 2, 1, 0, 4);
        isFault(rows, 3, 1, 0, 6);
        isFault(rows, 4, 1, 2, 0);
        isFault(rows, 5, 1, 2, 1);
        rows.translation(0, true);
        due("18: a translation lacks none", rows.faults(), 2);
        isFault(rows, 0, 1, 2, 0);
    }

    private static void goingNowhere() {
        WordRows rows = Checks.withNotes(2);
        rows.syllable(0, 1, 5, 0, true);
        rows.translation(1, true);
        due("18: a translation that goes on", rows.faults(), 1);
        isFault(rows, 0, 2, 1, 0);
        rows.syllable(1, 1, 5, 0, true);
        isFault(rows, 0, 2, 1, 1);
        due("18: the last one alone", rows.faults(), 1);
        rows.syllable(1, 1, 5, 0, false);
        due("18: it ends as its second one does", rows.faults(), 0);
        rows.wipe(1, 1);
        rows.translation(1, false);
        due("18: both kinds", rows.faults(), 2);
        isFault(rows, 0, 2, 1, 0);
        isFault(rows, 1, 1, 1, 1);
    }

    private static void faultRefusals() {
        WordRows rows = Checks.withNotes(2);
        rows.syllable(0, 0, 5, 0, false);
        due("19: what -1", rows.fault(0, -1), OUTSIDE);
        due("19: what 3", rows.fault(0, 3), OUTSIDE);
        due("19: i -1", rows.fault(-1, 0), UNKNOWN);
        due("19: i 1", rows.fault(1, 0), UNKNOWN);
        due("19: UNKNOWN ahead of OUTSIDE", rows.fault(1, 3), UNKNOWN);
        due("19: lowest", rows.fault(LOW, 0), UNKNOWN);
        due("19: highest", rows.fault(HIGH, 0), UNKNOWN);
    }

    private static void manyFaults() {
        WordRows rows = Checks.withNotes(60);
        for (int v = 0; v < 4; v++) {
            rows.syllable(59, v, 5, 0, true);
        }
        due("18: each note of each verse", rows.faults(), 240);
        isFault(rows, 239, 2, 3, 59);
        isFault(rows, 179, 2, 2, 59);
        isFault(rows, 60, 1, 1, 0);
        due("19: no more", rows.fault(240, 0), UNKNOWN);
    }

    private static WordRows alike() {
        WordRows rows = Checks.withNotes(3);
        for (int v = 1; v < 4; v += 2) {
            rows.syllable(0, v, 5, 2, true);
            rows.syllable(0, v, 7, 3, true);
            rows.syllable(2, v, 9, 4, false);
        }
        return rows;
    }

    private static void sharing() {
        due("20: alike", alike().shares(3), 1);
        due("20: the first of them shares with none", alike().shares(1), NONE);
        due("20: without boxes", alike().shares(2), NONE);
        due("20: verse -1", alike().shares(-1), UNKNOWN);
        due("20: verse 4", alike().shares(4), UNKNOWN);
        WordRows rows = alike();
        rows.align(3, 1);
        due("20: another way", rows.shares(3), NONE);
        rows.align(1, 1);
        due("20: the same way", rows.shares(3), 1);
        rows.translation(1, true);
        due("20: one is a translation", rows.shares(3), NONE);
        rows.translation(3, true);
        due("20: both are", rows.shares(3), 1);
        rows.wipe(2, 3);
        due("20: one lacks a box", rows.shares(3), NONE);
        shareWithOther("width", 8, 4, false, NONE);
        shareWithOther("vowel", 9, 5, false, NONE);
        shareWithOther("going on", 9, 4, true, NONE);
        shareWithOther("nothing", 9, 4, false, 1);
        WordRows tied = alike();
        tied.syllable(2, 3, 9, 4, false);
        due("20: one is tied", tied.shares(3), NONE);
        tied.syllable(2, 1, 9, 3, false);
        due("20: another second vowel", tied.shares(3), NONE);
        due("20: verses without boxes are not alike", Checks.withNotes(2).shares(1), NONE);
        WordRows wiped = Checks.withNotes(1);
        wiped.syllable(0, 0, 5, 0, false);
        wiped.syllable(0, 0, 6, 0, false);
        wiped.wipe(0, 0);
        wiped.syllable(0, 0, 5, 0, false);
        wiped.syllable(0, 1, 5, 0, false);
        due("20: what was wiped does not count", wiped.shares(1), 0);
        WordRows last = Checks.withNotes(60);
        for (int v = 0; v < 2; v++) {
            last.syllable(59, v, 5, 0, false);
            last.syllable(59, v, 6, 0, false);
        }
        due("20: two under the sixtieth note", last.shares(1), 0);
    }

    private static void shareWithOther(String what, int w, int vowel, boolean goesOn, int want) {
        WordRows rows = alike();
        rows.wipe(2, 3);
        rows.syllable(2, 3, w, vowel, goesOn);
        due("20: another " + what, rows.shares(3), want);
    }

    private static void sharingBesideRefrains() {
        WordRows rows = Checks.withNotes(3);
        rows.refrain(1, 1);
        rows.syllable(0, 0, 5, 0, false);
        rows.syllable(1, 0, 5, 0, false);
        rows.syllable(0, 1, 5, 0, false);
        due("20: a refrain does not count", rows.shares(1), 0);
        rows.syllable(2, 0, 5, 0, false);
        due("20: what is outside of it does", rows.shares(1), NONE);
        rows.wipe(2, 0);
        rows.wipe(0, 0);
        rows.wipe(0, 1);
        due("20: no boxes in verse 1", rows.shares(1), NONE);
    }

    private static void rows() {
        WordRows rows = Checks.withNotes(2);
        due("21: verse -1", rows.row(-1), UNKNOWN);
        due("21: verse 4", rows.row(4), UNKNOWN);
        due("21: no boxes", rows.row(0), NONE);
        rows.syllable(0, 1, 5, 0, false);
        rows.syllable(0, 2, 6, 0, false);
        rows.syllable(0, 3, 5, 0, false);
        due("21: still none", rows.row(0), NONE);
        due("21: the first that has some", rows.row(1), 0);
        due("21: the next", rows.row(2), 1);
        due("21: one that shares", rows.row(3), 0);
        rows.syllable(0, 0, 5, 0, false);
        due("21: verse 0 has some now", rows.row(0), 0);
        due("21: verse 1 shares", rows.row(1), 0);
        due("20: verse 3 shares with the least", rows.shares(3), 0);
        due("21: verse 2 does not", rows.row(2), 1);
        rows.align(3, 1);
        due("21: a row behind one that shares", rows.row(3), 2);
    }

    private static void in() {
        WordRows rows = Checks.withNotes(6);
        rows.melisma(1, 3);
        rows.refrain(2, 3);
        due("22: note -1", rows.in(-1, 0), UNKNOWN);
        due("22: note 6", rows.in(6, 0), UNKNOWN);
        due("22: UNKNOWN ahead of OUTSIDE", rows.in(6, 2), UNKNOWN);
        due("22: what -1", rows.in(0, -1), OUTSIDE);
        due("22: what 2", rows.in(0, 2), OUTSIDE);
        int[] melismas = {NONE, 1, 1, 1, NONE, NONE};
        int[] refrains = {NONE, NONE, 2, 2, 2, NONE};
        for (int i = 0; i < 6; i++) {
            due("22: melisma of " + i, rows.in(i, 0), melismas[i]);
            due("22: refrain of " + i, rows.in(i, 1), refrains[i]);
        }
    }

    private static void told() {
        WordRows rows = Checks.withNotes(7);
        rows.syllable(0, 0, 5, 0, false);
        rows.syllable(0, 0, 5, 0, false);
        rows.syllable(0, 3, 5, 0, false);
        rows.melisma(3, 2);
        rows.refrain(3, 1);
        rows.refrain(5, 1);
        rows.pattern(1, 0);
        rows.letter(1);
        rows.letter(2);
        rows.letter(3);
        rows.letter(4);
        for (int i = 0; i < 5; i++) {
            rows.chord(i, 9);
        }
        int[] want = {7, 3, 1, 2, 1, 4, 5, 0};
        for (int what = 0; what < 8; what++) {
            due("28: told(" + what + ")", rows.told(what), want[what]);
        }
        rows.place();
        due("28: placed", rows.told(7), 1);
        rows.clear();
        rows.note(10, 1, false);
        due("28: chords of notes that are gone", rows.told(6), 0);
        due("28: what -1", rows.told(-1), OUTSIDE);
        due("28: what 8", rows.told(8), OUTSIDE);
        due("28: lowest", rows.told(LOW), OUTSIDE);
        due("28: highest", rows.told(HIGH), OUTSIDE);
    }

    private static void clear() {
        WordRows rows = Checks.withNotes(9);
        due("29: nine notes", rows.clear(), 9);
        due("29: none", rows.clear(), 0);
        rows.letter(1);
        rows.sides(0, 1);
        rows.sides(1, 1);
        rows.limit(100);
        for (int v = 0; v < 4; v++) {
            rows.align(v, 2);
            rows.translation(v, true);
        }
        rows.pattern(1, 10);
        rows.letter(1);
        due("29: a cut ahead of it", rows.cuts(), 1);
        rows.place();
        due("29: no notes", rows.clear(), 0);
        for (int what = 0; what < 8; what++) {
            due("29: told(" + what + ")", rows.told(what), 0);
        }
        checks.throwsIndex("29: no cuts", () -> rows.cut(0));
        due("29: sides 0", rows.sides(0, 2), 2);
        due("29: sides 1", rows.sides(1, 3), 3);
        due("29: limit", rows.limit(2000), 2000);
        for (int v = 0; v < 4; v++) {
            due("29: way", rows.align(v, 0), 0);
            due("29: translation", rows.translation(v, false), 0);
        }
    }

    private static void clearLeavesNothing() {
        WordRows rows = Checks.withNotes(4);
        rows.syllable(0, 0, 50, 5, true);
        rows.syllable(0, 0, 50, 5, true);
        rows.syllable(3, 1, 50, 5, true);
        rows.chord(1, 90);
        rows.melisma(0, 2);
        rows.refrain(0, 3);
        rows.place();
        rows.clear();
        due("29: no note", rows.wipe(0, 0), UNKNOWN);
        for (int i = 0; i < 4; i++) {
            due("29: notes come from 0 on", rows.note(10, 1, false), i);
        }
        due("29: no chord", rows.chord(1, 0), 0);
        due("29: no melisma", rows.in(1, 0), NONE);
        due("29: no refrain", rows.in(1, 1), NONE);
        due("29: no syllables", rows.told(1), 0);
        due("29: no faults", rows.faults(), 0);
        due("29: no places", rows.x(0, 0), STATE);
        rows.place();
        due("29: no box", rows.box(0, 0, 0), UNKNOWN);
        due("29: not pushed", rows.x(3, 0), 60);
        due("29: the first syllable", rows.syllable(0, 0, 5, 0, false), 1);
        due("29: no melismas are counted", rows.melisma(0, 2), 1);
        due("29: no refrains are counted", rows.refrain(0, 3), 1);
    }
}
