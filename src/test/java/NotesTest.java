/** Promises 1 to 10: a new object, and what puts notes and syllables there. */
public final class NotesTest {
    private static final int UNKNOWN = -1000001, OUTSIDE = -1000002, STATE = -1000003, ROOM = -1000004, NONE = -1000009;
    private static final int LOW = Integer.MIN_VALUE, HIGH = Integer.MAX_VALUE;
    private static final Checks checks = new Checks();

    public static void main(String[] args) {
        newObject();
        note();
        syllable();
        syllableState();
        wipe();
        chord();
        melisma();
        melismaState();
        refrain();
        align();
        translation();
        limit();
        refusedCallsKeepPlaces();
        doneCallsEndPlaces();
        checks.end();
    }

    private static void due(String call, int got, int want) {
        checks.due(call, got, want);
    }

    private static void newObject() {
        WordRows rows = new WordRows();
        for (int what = 0; what < 8; what++) {
            due("1: told(" + what + ") of a new object", rows.told(what), 0);
        }
        for (int v = 0; v < 4; v++) {
            due("1: row", rows.row(v), NONE);
            due("1: shares", rows.shares(v), NONE);
            due("1: translation at first", rows.translation(v, false), 0);
            due("1: way at first", rows.align(v, 0), 0);
        }
        due("1: limit at first", rows.limit(2000), 2000);
        due("1: sides 0 at first", rows.sides(0, 1), 2);
        due("1: sides 1 at first", rows.sides(1, 1), 3);
        due("1: faults", rows.faults(), 0);
        due("1: strain", rows.strain(), STATE);
        due("1: no note", rows.x(0, 0), UNKNOWN);
        checks.throwsIndex("1: cut(0)", () -> rows.cut(0));
    }

    private static void note() {
        WordRows rows = new WordRows();
        due("2: width 9", rows.note(9, 1, false), OUTSIDE);
        due("2: width 201", rows.note(201, 1, false), OUTSIDE);
        due("2: length 0", rows.note(10, 0, false), OUTSIDE);
        due("2: length 65", rows.note(10, 65, true), OUTSIDE);
        due("2: lowest", rows.note(LOW, LOW, false), OUTSIDE);
        due("2: highest", rows.note(HIGH, HIGH, false), OUTSIDE);
        due("2: nothing came", rows.told(0), 0);
        due("2: least", rows.note(10, 1, false), 0);
        due("2: most", rows.note(200, 64, true), 1);
        for (int i = 2; i < 60; i++) {
            due("2: note " + i, rows.note(50, 2, false), i);
        }
        due("2: full", rows.note(50, 2, false), ROOM);
        due("2: OUTSIDE comes ahead of ROOM", rows.note(9, 2, false), OUTSIDE);
        due("2: sixty", rows.told(0), 60);
    }

    private static void syllable() {
        WordRows rows = Checks.withNotes(2);
        due("3: note -1", rows.syllable(-1, 0, 5, 0, false), UNKNOWN);
        due("3: note 2", rows.syllable(2, 0, 5, 0, false), UNKNOWN);
        due("3: lowest note", rows.syllable(LOW, 0, 5, 0, false), UNKNOWN);
        due("3: highest note", rows.syllable(HIGH, 0, 5, 0, false), UNKNOWN);
        due("3: verse -1", rows.syllable(0, -1, 5, 0, false), UNKNOWN);
        due("3: verse 4", rows.syllable(0, 4, 5, 0, false), UNKNOWN);
        due("3: UNKNOWN ahead of OUTSIDE", rows.syllable(0, 4, 0, 0, false), UNKNOWN);
        due("3: width 0", rows.syllable(0, 0, 0, 0, false), OUTSIDE);
        due("3: width 201", rows.syllable(0, 0, 201, 0, false), OUTSIDE);
        due("3: vowel -1", rows.syllable(0, 0, 5, -1, false), OUTSIDE);
        due("3: vowel above width", rows.syllable(0, 0, 5, 6, false), OUTSIDE);
        due("3: nothing came", rows.told(1), 0);
        due("3: least", rows.syllable(0, 0, 1, 0, false), 1);
        due("3: most", rows.syllable(0, 0, 200, 200, true), 2);
        due("3: two are there", rows.syllable(0, 0, 5, 0, false), ROOM);
        due("3: OUTSIDE ahead of ROOM", rows.syllable(0, 0, 5, 6, false), OUTSIDE);
        due("3: another verse", rows.syllable(0, 3, 5, 5, false), 1);
        due("3: another note", rows.syllable(1, 0, 5, 5, false), 1);
        due("3: four in all", rows.told(1), 4);
    }

    private static void syllableState() {
        WordRows rows = Checks.withNotes(3);
        due("3: a rest comes", rows.note(10, 1, true), 3);
        due("3: a note behind the rest", rows.note(10, 1, false), 4);
        due("3: two in verse 0", rows.syllable(4, 0, 5, 0, false), 1);
        due("3: two in verse 0", rows.syllable(4, 0, 5, 0, false), 2);
        rows.melisma(0, 2);
        rows.refrain(2, 3);
        due("3: on a rest", rows.syllable(3, 0, 5, 0, false), STATE);
        due("3: OUTSIDE ahead of STATE", rows.syllable(3, 0, 0, 0, false), OUTSIDE);
        due("3: first of a melisma", rows.syllable(0, 0, 5, 0, false), 1);
        due("3: behind the first", rows.syllable(1, 0, 5, 0, false), STATE);
        due("3: verse 0 in a refrain", rows.syllable(2, 0, 5, 0, false), 1);
        for (int v = 1; v < 4; v++) {
            due("3: verse " + v + " in a refrain", rows.syllable(2, v, 5, 0, false), STATE);
            due("3: verse " + v + " ahead of it", rows.syllable(0, v, 5, 0, false), 1);
        }
        due("3: full in verse 0", rows.syllable(4, 0, 5, 0, false), ROOM);
        due("3: no syllable by a refused call", rows.told(1), 7);
    }

    private static void wipe() {
        WordRows rows = Checks.withNotes(2);
        rows.syllable(0, 0, 5, 0, false);
        rows.syllable(0, 0, 6, 0, true);
        rows.syllable(0, 1, 7, 0, true);
        due("4: note -1", rows.wipe(-1, 0), UNKNOWN);
        due("4: note 2", rows.wipe(2, 0), UNKNOWN);
        due("4: verse -1", rows.wipe(0, -1), UNKNOWN);
        due("4: verse 4", rows.wipe(0, 4), UNKNOWN);
        due("4: none there", rows.wipe(1, 0), 0);
        due("4: two there", rows.wipe(0, 0), 2);
        due("4: gone", rows.wipe(0, 0), 0);
        due("4: the other verse keeps its own", rows.told(1), 1);
        due("4: one there", rows.wipe(0, 1), 1);
        due("4: room again", rows.syllable(0, 0, 9, 3, false), 1);
        rows.place();
        due("4: nothing old in the new box", rows.box(0, 0, 1), 9);
        due("4: not tied", rows.box(0, 0, 2), 0);
    }

    private static void chord() {
        WordRows rows = Checks.withNotes(1);
        rows.note(10, 1, true);
        due("5: note -1", rows.chord(-1, 5), UNKNOWN);
        due("5: note 2", rows.chord(2, 5), UNKNOWN);
        due("5: UNKNOWN ahead of OUTSIDE", rows.chord(2, 201), UNKNOWN);
        due("5: width -1", rows.chord(0, -1), OUTSIDE);
        due("5: width 201", rows.chord(0, 201), OUTSIDE);
        due("5: first", rows.chord(0, 200), 0);
        due("5: another width", rows.chord(0, 1), 200);
        due("5: over a rest", rows.chord(1, 7), 0);
        due("5: two chords", rows.told(6), 2);
        due("5: gone", rows.chord(0, 0), 1);
        due("5: gone already", rows.chord(0, 0), 0);
        due("5: one chord", rows.told(6), 1);
    }

    private static void melisma() {
        WordRows rows = Checks.withNotes(42);
        due("6: from -1", rows.melisma(-1, 2), UNKNOWN);
        due("6: from 42", rows.melisma(42, 2), UNKNOWN);
        due("6: UNKNOWN ahead of OUTSIDE", rows.melisma(42, 0), UNKNOWN);
        due("6: n 1", rows.melisma(0, 1), OUTSIDE);
        due("6: n 21", rows.melisma(0, 21), OUTSIDE);
        due("6: lowest n", rows.melisma(0, LOW), OUTSIDE);
        due("6: highest n", rows.melisma(41, HIGH), OUTSIDE);
        due("6: not so many", rows.melisma(41, 2), OUTSIDE);
        due("6: least", rows.melisma(40, 2), 1);
        due("6: most", rows.melisma(0, 20), 2);
        due("6: side by side with another", rows.melisma(20, 2), 3);
        due("6: told", rows.told(2), 3);
        due("6: first note", rows.in(19, 0), 0);
        due("6: next first note", rows.in(21, 0), 20);
        due("6: the last note is in it", rows.in(41, 0), 40);
        due("6: not in one", rows.in(22, 0), NONE);
    }

    private static void melismaState() {
        WordRows rows = Checks.withNotes(4);
        rows.note(10, 1, true);
        rows.note(10, 1, false);
        rows.syllable(1, 3, 5, 0, false);
        due("6: a rest at its end", rows.melisma(3, 2), STATE);
        due("6: a rest at its beginning", rows.melisma(4, 2), STATE);
        due("6: a syllable behind the first", rows.melisma(0, 2), STATE);
        for (int v = 0; v < 4; v++) {
            WordRows sung = Checks.withNotes(3);
            sung.syllable(2, v, 5, 0, false);
            due("6: a syllable in verse " + v, sung.melisma(0, 3), STATE);
        }
        due("6: nothing came", rows.told(2), 0);
        due("6: OUTSIDE ahead of STATE", rows.melisma(4, 3), OUTSIDE);
        due("6: a syllable at the first", rows.melisma(1, 2), 1);
        due("6: first is of another", rows.melisma(2, 2), STATE);
        due("6: last is of another", rows.melisma(0, 2), STATE);
        due("6: the same again", rows.melisma(1, 2), STATE);
        due("6: refused ones leave no trace", rows.in(0, 0), NONE);
        due("6: one in all", rows.told(2), 1);
    }

    private static void refrain() {
        WordRows rows = Checks.withNotes(60);
        due("7: from -1", rows.refrain(-1, 1), UNKNOWN);
        due("7: from 60", rows.refrain(60, 1), UNKNOWN);
        due("7: UNKNOWN ahead of OUTSIDE", rows.refrain(60, 0), UNKNOWN);
        due("7: n 0", rows.refrain(0, 0), OUTSIDE);
        due("7: n 61", rows.refrain(0, 61), OUTSIDE);
        due("7: highest n", rows.refrain(59, HIGH), OUTSIDE);
        due("7: not so many", rows.refrain(59, 2), OUTSIDE);
        rows.syllable(0, 0, 5, 0, false);
        rows.syllable(9, 3, 5, 0, false);
        due("7: a syllable in verse 3", rows.refrain(8, 2), STATE);
        for (int v = 1; v < 4; v++) {
            WordRows sung = Checks.withNotes(2);
            sung.syllable(1, v, 5, 0, false);
            due("7: a syllable in verse " + v, sung.refrain(0, 2), STATE);
            due("7: ahead of it", sung.refrain(0, 1), 1);
        }
        due("7: a syllable in verse 0", rows.refrain(0, 1), 1);
        due("7: of another", rows.refrain(0, 2), STATE);
        due("7: next to another", rows.refrain(1, 2), 2);
        due("7: the third", rows.refrain(20, 20), 3);
        due("7: no fourth", rows.refrain(50, 2), ROOM);
        due("7: STATE ahead of ROOM", rows.refrain(39, 2), STATE);
        due("7: OUTSIDE ahead of STATE", rows.refrain(39, 61), OUTSIDE);
        due("7: told", rows.told(3), 3);
        due("7: first note", rows.in(39, 1), 20);
        due("7: not in one", rows.in(50, 1), NONE);
        due("7: sixty notes", Checks.withNotes(60).refrain(0, 60), 1);
        WordRows rests = Checks.withNotes(1);
        rests.note(10, 1, true);
        due("7: a rest may be in it", rests.refrain(0, 2), 1);
    }

    private static void align() {
        WordRows rows = new WordRows();
        due("8: verse -1", rows.align(-1, 0), UNKNOWN);
        due("8: verse 4", rows.align(4, 3), UNKNOWN);
        due("8: way -1", rows.align(0, -1), OUTSIDE);
        due("8: way 3", rows.align(0, 3), OUTSIDE);
        due("8: to 2", rows.align(3, 2), 0);
        due("8: to 1", rows.align(3, 1), 2);
        due("8: to 0", rows.align(3, 0), 1);
        due("8: another verse", rows.align(2, 1), 0);
    }

    private static void translation() {
        WordRows rows = new WordRows();
        due("9: verse -1", rows.translation(-1, true), UNKNOWN);
        due("9: verse 4", rows.translation(4, true), UNKNOWN);
        due("9: on", rows.translation(0, true), 0);
        due("9: on again", rows.translation(0, true), 1);
        due("9: off", rows.translation(0, false), 1);
        due("9: off already", rows.translation(0, false), 0);
        due("9: another verse", rows.translation(1, true), 0);
    }

    private static void limit() {
        WordRows rows = new WordRows();
        due("10: 99", rows.limit(99), OUTSIDE);
        due("10: 30001", rows.limit(30001), OUTSIDE);
        due("10: lowest", rows.limit(LOW), OUTSIDE);
        due("10: 100", rows.limit(100), 2000);
        due("10: 30000", rows.limit(30000), 100);
        due("10: as before", rows.limit(30000), 30000);
    }

    private static void refusedCallsKeepPlaces() {
        WordRows rows = Checks.withNotes(2);
        rows.place();
        rows.note(9, 1, false);
        rows.syllable(0, 4, 5, 0, false);
        rows.wipe(2, 0);
        rows.chord(0, 201);
        rows.melisma(0, 1);
        rows.refrain(0, 0);
        rows.align(0, 3);
        rows.translation(4, true);
        rows.limit(99);
        due("refused calls keep the places", rows.told(7), 1);
        rows.faults();
        rows.pattern(1, 0);
        rows.letter(1);
        rows.sides(0, 1);
        rows.cuts();
        due("calls of other kinds keep the places", rows.x(1, 0), 20);
    }

    private static void doneCallsEndPlaces() {
        WordRows rows = Checks.withNotes(1);
        ended(rows, "note", () -> rows.note(10, 1, false));
        ended(rows, "syllable", () -> rows.syllable(0, 0, 5, 0, true));
        ended(rows, "wipe of none", () -> rows.wipe(1, 3));
        ended(rows, "chord that is not there", () -> rows.chord(0, 0));
        ended(rows, "melisma", () -> rows.melisma(0, 2));
        ended(rows, "refrain", () -> rows.refrain(0, 2));
        ended(rows, "align as it was", () -> rows.align(0, 0));
        ended(rows, "translation as it was", () -> rows.translation(0, false));
        ended(rows, "limit as it was", () -> rows.limit(2000));
        ended(rows, "clear", () -> rows.clear());
    }

    private static void ended(WordRows rows, String name, Checks.Call call) {
        rows.place();
        due(name + ": placed ahead of it", rows.told(7), 1);
        checks.isTrue(name + " is done", call.answer() >= 0);
        due(name + ": no places behind it", rows.told(7), 0);
        due(name + ": STATE behind it", rows.strain(), STATE);
    }
}
