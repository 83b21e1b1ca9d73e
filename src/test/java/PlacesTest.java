/** Promises 11 to 17: placing, and what is told of places. */
public final class PlacesTest {
    private static final int UNKNOWN = -1000001, OUTSIDE = -1000002, STATE = -1000003, NONE = -1000009;
    private static final int LOW = Integer.MIN_VALUE, HIGH = Integer.MAX_VALUE;
    private static final Checks checks = new Checks();

    public static void main(String[] args) {
        notesAlone();
        refusals();
        ways();
        gaps();
        boxesAcrossNotes();
        tied();
        chords();
        translations();
        overfull();
        mostNotes();
        hyphenCounts();
        hyphenPlaces();
        hyphensWithout();
        lines();
        linesWithout();
        strain();
        checks.end();
    }

    private static void due(String call, int got, int want) {
        checks.due(call, got, want);
    }

    private static void notesAlone() {
        WordRows rows = new WordRows();
        due("11: nothing there", rows.place(), 0);
        rows.note(10, 1, false);
        rows.note(200, 64, true);
        rows.note(30, 2, false);
        rows.place();
        due("12: first", rows.x(0, 0), 0);
        due("12: behind 10 and 10", rows.x(1, 0), 20);
        due("12: behind 200 and 640", rows.x(2, 0), 860);
        due("12: pushed", rows.x(2, 1), 0);
    }

    private static void refusals() {
        WordRows rows = Checks.withNotes(2);
        rows.syllable(0, 0, 5, 0, true);
        due("12: STATE", rows.x(0, 0), STATE);
        due("13: STATE", rows.box(0, 0, 0), STATE);
        due("14: STATE", rows.hyphens(0, 0), STATE);
        due("15: STATE", rows.hyphen(0, 0, 99), STATE);
        due("16: STATE", rows.line(0, 0, 0), STATE);
        due("17: STATE", rows.strain(), STATE);
        due("12: OUTSIDE ahead of STATE", rows.x(0, 2), OUTSIDE);
        due("13: OUTSIDE ahead of STATE", rows.box(0, 0, 5), OUTSIDE);
        due("16: OUTSIDE ahead of STATE", rows.line(0, 0, 2), OUTSIDE);
        due("12: UNKNOWN ahead of OUTSIDE", rows.x(2, 2), UNKNOWN);
        due("13: UNKNOWN ahead of OUTSIDE", rows.box(1, 0, 5), UNKNOWN);
        due("14: UNKNOWN ahead of STATE", rows.hyphens(1, 0), UNKNOWN);
        due("15: UNKNOWN ahead of STATE", rows.hyphen(1, 0, 0), UNKNOWN);
        due("16: UNKNOWN ahead of OUTSIDE", rows.line(1, 0, 2), UNKNOWN);
        rows.place();
        due("12: what -1", rows.x(0, -1), OUTSIDE);
        due("13: what -1", rows.box(0, 0, -1), OUTSIDE);
        due("13: what 5", rows.box(0, 0, 5), OUTSIDE);
        due("16: what -1", rows.line(0, 0, -1), OUTSIDE);
        due("12: what 2", rows.x(0, 2), OUTSIDE);
        for (int wrong : new int[] {LOW, -1, 4, HIGH}) {
            due("12: note " + wrong, rows.x(wrong, 0), UNKNOWN);
            due("13: note " + wrong, rows.box(wrong, 0, 0), UNKNOWN);
            due("13: verse " + wrong, rows.box(0, wrong, 0), UNKNOWN);
            due("14: note " + wrong, rows.hyphens(wrong, 0), UNKNOWN);
            due("14: verse " + wrong, rows.hyphens(0, wrong), UNKNOWN);
            due("15: note " + wrong, rows.hyphen(wrong, 0, 0), UNKNOWN);
            due("15: verse " + wrong, rows.hyphen(0, wrong, 0), UNKNOWN);
            due("16: note " + wrong, rows.line(wrong, 0, 0), UNKNOWN);
            due("16: verse " + wrong, rows.line(0, wrong, 0), UNKNOWN);
        }
    }

    private static void ways() {
        WordRows rows = Checks.withNotes(1);
        rows.syllable(0, 0, 25, 7, false);
        rows.place();
        due("11: half the box, cut off", rows.x(0, 0), 12);
        due("12: the first is pushed by x itself", rows.x(0, 1), 12);
        due("13: begins at 0", rows.box(0, 0, 0), 0);
        rows.align(0, 1);
        rows.place();
        due("11: no offset", rows.x(0, 0), 0);
        rows.align(0, 2);
        rows.place();
        due("11: the vowel", rows.x(0, 0), 7);
        rows.syllable(0, 1, 30, 0, false);
        rows.place();
        due("11: the greatest of the offsets", rows.x(0, 0), 15);
        due("13: begins at x less the vowel", rows.box(0, 0, 0), 8);
        due("13: ends", rows.box(0, 0, 3), 33);
        due("13: x is within", rows.box(0, 0, 4), 1);
    }

    private static void gaps() {
        WordRows rows = Checks.withNotes(3);
        rows.align(0, 1);
        rows.syllable(0, 0, 100, 0, true);
        rows.syllable(1, 0, 100, 0, false);
        rows.syllable(2, 0, 100, 0, false);
        rows.place();
        due("11: a gap of 4 behind one that goes on", rows.x(1, 0), 104);
        due("11: a gap of 12 behind one that ends", rows.x(2, 0), 216);
        due("12: pushed by 84", rows.x(1, 1), 84);
        due("12: pushed by 92", rows.x(2, 1), 92);
        rows.align(0, 2);
        rows.wipe(1, 0);
        rows.syllable(1, 0, 100, 30, false);
        rows.place();
        due("11: the offset comes to the gap", rows.x(1, 0), 134);
        due("13: it begins at the gap", rows.box(1, 0, 0), 104);
    }

    private static void boxesAcrossNotes() {
        WordRows rows = Checks.withNotes(4);
        rows.align(0, 1);
        rows.align(3, 1);
        rows.syllable(0, 0, 200, 0, true);
        rows.syllable(3, 0, 10, 0, false);
        rows.syllable(1, 3, 150, 0, false);
        rows.syllable(2, 3, 10, 0, false);
        rows.place();
        due("11: a note without a box in the verse is not pushed by it", rows.x(1, 0), 20);
        due("11: verse 3 pushes", rows.x(2, 0), 182);
        due("11: the box before is three notes back", rows.x(3, 0), 204);
        due("12: pushed by 2", rows.x(3, 1), 2);
    }

    private static void tied() {
        WordRows rows = Checks.withNotes(2);
        rows.syllable(0, 0, 20, 3, false);
        rows.syllable(0, 0, 31, 9, true);
        rows.syllable(1, 0, 10, 0, false);
        rows.place();
        due("13: two widths and 5", rows.box(0, 0, 1), 56);
        due("13: tied", rows.box(0, 0, 2), 1);
        due("13: not tied", rows.box(1, 0, 2), 0);
        due("13: the half of both", rows.x(0, 0), 28);
        due("13: goes on as its last one", rows.box(1, 0, 0), 60);
        rows.align(0, 2);
        rows.place();
        due("13: the vowel of its first one", rows.x(0, 0), 3);
        rows.wipe(0, 0);
        rows.syllable(0, 0, 20, 3, true);
        rows.syllable(0, 0, 31, 9, false);
        rows.place();
        due("13: ends as its last one", rows.box(1, 0, 0), 68);
    }

    private static void chords() {
        WordRows rows = Checks.withNotes(3);
        rows.chord(0, 50);
        rows.chord(2, 70);
        rows.place();
        due("11: no chord, not pushed", rows.x(1, 0), 20);
        due("11: 10 behind the chord before", rows.x(2, 0), 60);
        due("12: pushed by the chord", rows.x(2, 1), 20);
        rows.limit(100);
        due("11: the end of the chord counts", rows.place(), 30);
        rows.chord(2, 0);
        due("11: gone", rows.place(), 0);
        due("11: not pushed any more", rows.x(2, 0), 40);
        rows.chord(0, 150);
        due("11: a chord that is not the last one", rows.place(), 50);
        rows.chord(1, 1);
        rows.place();
        due("11: a chord of width 1 is one", rows.x(1, 0), 160);
    }

    private static void translations() {
        WordRows rows = Checks.withNotes(3);
        rows.syllable(0, 1, 101, 0, true);
        rows.syllable(1, 1, 20, 0, false);
        rows.syllable(2, 1, 20, 0, false);
        rows.translation(1, true);
        rows.place();
        due("11: pushes nothing at 0", rows.x(0, 0), 0);
        due("11: pushes nothing", rows.x(1, 0), 20);
        due("13: not below 0", rows.box(0, 1, 0), 0);
        due("13: behind the one that goes on", rows.box(1, 1, 0), 105);
        due("13: behind the one that ends", rows.box(2, 1, 0), 137);
        due("13: x at its beginning is within", rows.box(0, 1, 4), 1);
        due("13: x ahead of it is not", rows.box(1, 1, 4), 0);
        due("13: ends", rows.box(2, 1, 3), 157);
        rows.limit(100);
        due("11: its ends count", rows.place(), 57);
        rows.align(1, 1);
        rows.wipe(0, 1);
        rows.wipe(1, 1);
        rows.place();
        due("13: x less the offset", rows.box(2, 1, 0), 40);
        rows.translation(1, false);
        rows.align(1, 0);
        rows.wipe(2, 1);
        rows.syllable(0, 1, 100, 0, false);
        rows.place();
        due("11: it pushes again", rows.x(0, 0), 50);
    }

    private static void overfull() {
        WordRows rows = new WordRows();
        rows.note(10, 9, false);
        rows.note(10, 64, false);
        rows.limit(110);
        due("11: the last note just fits, its length does not count", rows.place(), 0);
        rows.limit(109);
        due("11: one too many", rows.place(), 1);
        rows.align(0, 1);
        rows.syllable(0, 0, 200, 0, false);
        due("11: a box that is not the last one", rows.place(), 91);
        due("11: the same again", rows.place(), 91);
        WordRows one = new WordRows();
        one.note(200, 1, false);
        one.limit(100);
        due("11: one note alone", one.place(), 100);
    }

    private static void mostNotes() {
        WordRows rows = Checks.withNotes(60);
        for (int i = 0; i < 60; i++) {
            rows.chord(i, 200);
            for (int v = 0; v < 4; v++) {
                rows.syllable(i, v, 200, 0, false);
            }
        }
        rows.limit(10000);
        due("11: 100, and 59 times 212, and the last chord", rows.place(), 12808 - 10000);
        due("12: the last note", rows.x(59, 0), 12608);
        due("12: pushed", rows.x(59, 1), 192);
        due("13: the last box", rows.box(59, 3, 3), 12708);
        due("14: behind the last box", rows.hyphens(59, 3), 0);
        due("17: 1000 (100 + 59 * 192) / 12608", rows.strain(), 906);
        due("18: none", rows.faults(), 0);
        due("20: alike", rows.shares(3), 0);
        due("21: one row", rows.row(3), 0);
    }

    /** Two boxes of verse 0 with this room (4 to 600) between them. */
    private static WordRows twoBoxes(int room) {
        WordRows rows = new WordRows();
        rows.align(0, 1);
        rows.note(10, 1 + room / 10, false);
        rows.note(10, 1, false);
        rows.syllable(0, 0, 20 - room % 10, 0, true);
        rows.syllable(1, 0, 5, 0, false);
        rows.place();
        return rows;
    }

    private static void hyphenCounts() {
        int[] rooms = {4, 9, 10, 89, 90, 169, 170, 500};
        int[] counts = {0, 0, 1, 1, 2, 2, 3, 7};
        for (int i = 0; i < rooms.length; i++) {
            WordRows rows = twoBoxes(rooms[i]);
            int room = rows.box(1, 0, 0) - rows.box(0, 0, 3);
            due("the room that this test wants", room, rooms[i]);
            due("14: hyphens in " + rooms[i], rows.hyphens(0, 0), counts[i]);
            int n = counts[i];
            checks.throwsIndex("15: hyphen " + n + " of " + n, () -> rows.hyphen(0, 0, n));
            checks.throwsIndex("15: hyphen -1", () -> rows.hyphen(0, 0, -1));
            checks.throwsIndex("15: lowest", () -> rows.hyphen(0, 0, LOW));
            checks.throwsIndex("15: highest", () -> rows.hyphen(0, 0, HIGH));
        }
    }

    private static void hyphenPlaces() {
        WordRows one = twoBoxes(15);
        due("15: the middle, cut off, less 3", one.hyphen(0, 0, 0), one.box(0, 0, 3) + 7 - 3);
        WordRows three = twoBoxes(173);
        int end = three.box(0, 0, 3);
        due("15: 173 / 6", three.hyphen(0, 0, 0), end + 28 - 3);
        due("15: 3 * 173 / 6", three.hyphen(0, 0, 1), end + 86 - 3);
        due("15: 5 * 173 / 6", three.hyphen(0, 0, 2), end + 144 - 3);
    }

    private static void hyphensWithout() {
        WordRows rows = new WordRows();
        rows.note(10, 64, false);
        rows.note(10, 64, false);
        rows.syllable(0, 0, 5, 0, false);
        rows.syllable(1, 0, 5, 0, true);
        rows.syllable(0, 1, 5, 0, true);
        rows.place();
        due("14: it ends", rows.hyphens(0, 0), 0);
        due("14: nothing behind it", rows.hyphens(1, 0), 0);
        due("14: a box of another verse is not the next", rows.hyphens(0, 1), 0);
        checks.throwsIndex("15: it ends", () -> rows.hyphen(0, 0, 0));
        checks.throwsIndex("15: nothing behind it", () -> rows.hyphen(1, 0, 0));
        rows.syllable(1, 1, 5, 0, true);
        rows.translation(1, true);
        rows.place();
        due("14: of a translation", rows.hyphens(0, 1), 1 + (rows.box(1, 1, 0) - rows.box(0, 1, 3) - 10) / 80);
    }

    private static void lines() {
        WordRows rows = Checks.withNotes(5);
        rows.align(0, 1);
        rows.align(1, 1);
        rows.melisma(1, 3);
        rows.syllable(1, 0, 15, 0, false);
        rows.place();
        due("16: from the end and 2", rows.line(1, 0, 0), 37);
        due("16: to the end of the last note", rows.line(1, 0, 1), 70);
        rows.syllable(4, 0, 5, 0, false);
        rows.place();
        due("16: the next box is farther", rows.line(1, 0, 1), 70);
        rows.align(0, 2);
        rows.wipe(4, 0);
        rows.syllable(4, 0, 30, 23, false);
        rows.place();
        due("16: the next box begins at", rows.box(4, 0, 0), 57);
        due("16: 4 before the next box", rows.line(1, 0, 1), 53);
        rows.syllable(1, 1, 5, 0, true);
        rows.place();
        due("16: one that goes on has none", rows.line(1, 1, 0), NONE);
        due("16: one that goes on has none", rows.line(1, 1, 1), NONE);
    }

    private static void linesWithout() {
        WordRows rows = Checks.withNotes(3);
        rows.align(0, 1);
        rows.melisma(0, 2);
        rows.syllable(0, 0, 18, 0, false);
        rows.syllable(2, 0, 5, 0, false);
        rows.place();
        due("16: just 10", rows.line(0, 0, 1) - rows.line(0, 0, 0), 10);
        due("16: no melisma here", rows.line(2, 0, 0), NONE);
        rows.wipe(0, 0);
        rows.syllable(0, 0, 19, 0, false);
        rows.place();
        due("16: 9 is too short", rows.line(0, 0, 0), NONE);
        due("16: 9 is too short", rows.line(0, 0, 1), NONE);
        rows.wipe(0, 0);
        due("16: no box any more", rows.line(0, 0, 0), UNKNOWN);
    }

    private static void strain() {
        WordRows rows = new WordRows();
        rows.place();
        checks.throwsArithmetic("17: no notes", rows::strain);
        rows.note(10, 1, false);
        rows.place();
        checks.throwsArithmetic("17: the last x is 0", rows::strain);
        rows.note(10, 1, false);
        rows.place();
        due("17: nothing is pushed", rows.strain(), 0);
        rows.syllable(0, 0, 7, 0, false);
        rows.place();
        due("17: 3000 / 23", rows.strain(), 130);
        rows.chord(0, 100);
        rows.chord(1, 100);
        rows.place();
        due("17: 1000 (3 + 90) / 113", rows.strain(), 823);
        rows.clear();
        rows.note(10, 1, false);
        rows.syllable(0, 0, 200, 0, false);
        rows.place();
        due("17: all of it is pushed", rows.strain(), 1000);
        rows.note(10, 1, true);
        rows.clear();
        due("17: STATE ahead of Arithmetic", rows.strain(), STATE);
    }
}
