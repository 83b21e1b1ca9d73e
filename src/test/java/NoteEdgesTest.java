/** The sentences of paragraph 1 and of promises 1 to 10 that name an edge, each by a test of its own. */
public final class NoteEdgesTest extends Edges {
    public static void main(String[] args) {
        runAll(NoteEdgesTest.class);
    }

    // ---- promise 1, a new object

    static void newObjectHasNothing() {
        says("1: Nothing is there");
        for (int what = 0; what < 8; what++) {
            int asked = what;
            taken("told(" + what + ")", Edges::nothing, rows -> rows.told(asked), 0);
        }
        taken("faults", Edges::nothing, WordRows::faults, 0);
        taken("cuts", Edges::nothing, WordRows::cuts, 0);
        taken("place", Edges::nothing, WordRows::place, 0);
        taken("clear", Edges::nothing, WordRows::clear, 0);
        refused("the first fault", Edges::nothing, rows -> rows.fault(0, 0), UNKNOWN);
        for (int v = 0; v < 4; v++) {
            int verse = v;
            taken("shares(" + v + ")", Edges::nothing, rows -> rows.shares(verse), NONE);
            taken("row(" + v + ")", Edges::nothing, rows -> rows.row(verse), NONE);
        }
    }

    static void newObjectHasNoNote() {
        says("1: Nothing is there (no NOTE 0: UNKNOWN)");
        refused("syllable", Edges::nothing, rows -> rows.syllable(0, 0, 1, 0, false), UNKNOWN);
        refused("wipe", Edges::nothing, rows -> rows.wipe(0, 0), UNKNOWN);
        refused("chord", Edges::nothing, rows -> rows.chord(0, 1), UNKNOWN);
        refused("melisma", Edges::nothing, rows -> rows.melisma(0, 2), UNKNOWN);
        refused("refrain", Edges::nothing, rows -> rows.refrain(0, 1), UNKNOWN);
        refused("x", Edges::nothing, rows -> rows.x(0, 0), UNKNOWN);
        refused("box", Edges::nothing, rows -> rows.box(0, 0, 0), UNKNOWN);
        refused("hyphens", Edges::nothing, rows -> rows.hyphens(0, 0), UNKNOWN);
        refused("hyphen", Edges::nothing, rows -> rows.hyphen(0, 0, 0), UNKNOWN);
        refused("line", Edges::nothing, rows -> rows.line(0, 0, 0), UNKNOWN);
        refused("in", Edges::nothing, rows -> rows.in(0, 0), UNKNOWN);
    }

    static void newObjectHasNoTranslation() {
        says("1: no VERSE is a TRANSLATION");
        for (int v = 0; v < 4; v++) {
            int verse = v;
            taken("verse " + v, Edges::nothing, rows -> rows.translation(verse, true), 0);
        }
    }

    static void newObjectBesideAnother() {
        says("1: Nothing is there, whatever another object has");
        tellAlike("made behind another", rows -> after(Edges::song), Edges::nothing);
        tellAlike("with a song of its own", both(Edges::song, rows -> after(Edges::longSong)), Edges::song);
        tellAlike("beside one that is cleared", both(Edges::song, rows -> after(Edges::shortSong).clear()), Edges::song);
    }

    // ---- which notes and verses there are

    /** Makes each call that wants a note and a box there. */
    private static void isUnknownNote(String what, Past past, int note) {
        refused("syllable, " + what, past, rows -> rows.syllable(note, 0, 1, 0, false), UNKNOWN);
        refused("wipe, " + what, past, rows -> rows.wipe(note, 0), UNKNOWN);
        refused("chord, " + what, past, rows -> rows.chord(note, 1), UNKNOWN);
        refused("melisma, " + what, past, rows -> rows.melisma(note, 2), UNKNOWN);
        refused("refrain, " + what, past, rows -> rows.refrain(note, 1), UNKNOWN);
        refused("x, " + what, past, rows -> rows.x(note, 0), UNKNOWN);
        refused("box, " + what, past, rows -> rows.box(note, 0, 0), UNKNOWN);
        refused("hyphens, " + what, past, rows -> rows.hyphens(note, 0), UNKNOWN);
        refused("hyphen, " + what, past, rows -> rows.hyphen(note, 0, 0), UNKNOWN);
        refused("line, " + what, past, rows -> rows.line(note, 0, 0), UNKNOWN);
        refused("in, " + what, past, rows -> rows.in(note, 0), UNKNOWN);
    }

    static void noSuchNote() {
        says("Terms: UNKNOWN (no such NOTE)");
        for (int note : new int[] {LOW, -1, 8, 9, 59, 60, 61, HIGH}) {
            isUnknownNote("note " + note + " of eight", Edges::song, note);
        }
    }

    static void theSixtiethNoteIsThere() {
        says("1: NOTES 0, 1, .. (60 at most): note 59 is the last that there can be");
        Past sixty = both(notes(60), rows -> {
            rows.syllable(59, 0, 30, 5, false);
            rows.place();
        });
        taken("syllable", sixty, rows -> rows.syllable(59, 1, 1, 0, false), 1);
        taken("wipe", sixty, rows -> rows.wipe(59, 0), 1);
        taken("chord", sixty, rows -> rows.chord(59, 1), 0);
        taken("melisma up to it", notes(60), rows -> rows.melisma(58, 2), 1);
        taken("refrain", sixty, rows -> rows.refrain(59, 1), 1);
        taken("x", sixty, rows -> rows.x(59, 0), 59 * 20);
        taken("box", sixty, rows -> rows.box(59, 0, 0), 59 * 20 - 15);
        taken("hyphens", sixty, rows -> rows.hyphens(59, 0), 0);
        taken("line", sixty, rows -> rows.line(59, 0, 0), NONE);
        taken("in", sixty, rows -> rows.in(59, 0), NONE);
        isUnknownNote("note 60 of sixty", sixty, 60);
    }

    static void firstAndLastNote() {
        says("1: NOTES 0, 1, .., as they come: the first and the last of seven are there");
        Past seven = both(notes(7), WordRows::place);
        for (int note : new int[] {0, 6}) {
            taken("syllable", seven, rows -> rows.syllable(note, 2, 1, 0, false), 1);
            taken("wipe", seven, rows -> rows.wipe(note, 3), 0);
            taken("chord", seven, rows -> rows.chord(note, 1), 0);
            taken("refrain", seven, rows -> rows.refrain(note, 1), 1);
            taken("x", seven, rows -> rows.x(note, 0), 20 * note);
            taken("in", seven, rows -> rows.in(note, 0), NONE);
            Past sung = both(seven, rows -> {
                rows.syllable(note, 1, 9, 0, true);
                rows.place();
            });
            taken("box", sung, rows -> rows.box(note, 1, 1), 9);
            taken("hyphens", sung, rows -> rows.hyphens(note, 1), 0);
            taken("line", sung, rows -> rows.line(note, 1, 0), NONE);
        }
        taken("melisma from the first", seven, rows -> rows.melisma(0, 2), 1);
        taken("melisma up to the last", seven, rows -> rows.melisma(5, 2), 1);
    }

    static void noSuchVerse() {
        says("Terms: UNKNOWN (no such VERSE); VERSES are 0 to 3");
        for (int verse : new int[] {LOW, -1, 4, 5, HIGH}) {
            String what = ", verse " + verse;
            refused("syllable" + what, Edges::song, rows -> rows.syllable(0, verse, 1, 0, false), UNKNOWN);
            refused("wipe" + what, Edges::song, rows -> rows.wipe(0, verse), UNKNOWN);
            refused("align" + what, Edges::song, rows -> rows.align(verse, 1), UNKNOWN);
            refused("translation on" + what, Edges::song, rows -> rows.translation(verse, true), UNKNOWN);
            refused("translation off" + what, Edges::song, rows -> rows.translation(verse, false), UNKNOWN);
            refused("box" + what, Edges::song, rows -> rows.box(0, verse, 0), UNKNOWN);
            refused("hyphens" + what, Edges::song, rows -> rows.hyphens(0, verse), UNKNOWN);
            refused("hyphen" + what, Edges::song, rows -> rows.hyphen(0, verse, 0), UNKNOWN);
            refused("line" + what, Edges::song, rows -> rows.line(0, verse, 0), UNKNOWN);
            refused("shares" + what, Edges::song, rows -> rows.shares(verse), UNKNOWN);
            refused("row" + what, Edges::song, rows -> rows.row(verse), UNKNOWN);
        }
    }

    static void firstAndLastVerse() {
        says("1: VERSES are 0 to 3: 0 and 3 are there");
        for (int verse : new int[] {0, 3}) {
            taken("syllable", Edges::song, rows -> rows.syllable(0, verse, 1, 0, false), 2);
            taken("wipe", Edges::song, rows -> rows.wipe(0, verse), 1);
            taken("align", Edges::song, rows -> rows.align(verse, 2), verse == 0 ? 1 : 0);
            taken("translation", Edges::song, rows -> rows.translation(verse, true), 0);
            taken("box", Edges::song, rows -> rows.box(0, verse, 2), 0);
            taken("line", Edges::song, rows -> rows.line(0, verse, 0), NONE);
            taken("shares", Edges::song, rows -> rows.shares(verse), verse == 0 ? NONE : 1);
            taken("row", Edges::song, rows -> rows.row(verse), verse == 0 ? 0 : 1);
        }
    }

    // ---- promise 2, note

    static void noteWidth() {
        says("2: A NOTE. OUTSIDE; 1: a WIDTH (10 to 200)");
        for (int w : new int[] {LOW, -10, 0, 9, 201, HIGH}) {
            refused("width " + w, Edges::song, rows -> rows.note(w, 1, false), OUTSIDE);
            refused("width " + w + ", a rest", Edges::song, rows -> rows.note(w, 1, true), OUTSIDE);
        }
        for (int w : new int[] {10, 11, 199, 200}) {
            taken("width " + w, Edges::song, rows -> rows.note(w, 1, false), 8);
            WordRows rows = after(r -> r.note(w, 1, false));
            rows.note(10, 1, false);
            rows.place();
            due("the next note behind width " + w, rows.x(1, 0), w + 10);
        }
    }

    static void noteLength() {
        says("2: A NOTE. OUTSIDE; 1: a LENGTH (1 to 64)");
        for (int length : new int[] {LOW, -1, 0, 65, 66, HIGH}) {
            refused("length " + length, Edges::song, rows -> rows.note(10, length, false), OUTSIDE);
            refused("length " + length + ", a rest", Edges::song, rows -> rows.note(10, length, true), OUTSIDE);
        }
        for (int length : new int[] {1, 2, 63, 64}) {
            taken("length " + length, Edges::song, rows -> rows.note(10, length, true), 8);
            WordRows rows = after(r -> r.note(10, length, false));
            rows.note(10, 1, false);
            rows.place();
            due("the next note behind length " + length, rows.x(1, 0), 10 + 10 * length);
        }
    }

    static void noteRoom() {
        says("2: A NOTE: its number. ROOM; 1: NOTES (60 at most)");
        taken("the first", notes(0), rows -> rows.note(10, 1, false), 0);
        taken("the sixtieth", notes(59), rows -> rows.note(10, 1, false), 59);
        taken("the sixtieth is counted", notes(60), rows -> rows.told(0), 60);
        refused("the sixty-first", Edges::longSong, rows -> rows.note(10, 1, false), ROOM);
        refused("a rest as the sixty-first", Edges::longSong, rows -> rows.note(200, 64, true), ROOM);
        taken("the first after clear()", both(notes(60), WordRows::clear), rows -> rows.note(10, 1, false), 0);
    }

    // ---- promise 3, syllable

    static void syllableWidth() {
        says("3: A SYLLABLE more. OUTSIDE; 1: a WIDTH (1 to 200)");
        for (int w : new int[] {LOW, -1, 0, 201, HIGH}) {
            refused("width " + w, Edges::song, rows -> rows.syllable(0, 2, w, 0, false), OUTSIDE);
        }
        for (int w : new int[] {1, 2, 199, 200}) {
            WordRows rows = after(Edges::song);
            due("width " + w, rows.syllable(0, 2, w, 0, false), 1);
            rows.place();
            due("a box of width " + w, rows.box(0, 2, 1), w);
        }
    }

    static void syllableVowel() {
        says("3: A SYLLABLE more. OUTSIDE; 1: a VOWEL (0 to its WIDTH)");
        for (int w : new int[] {1, 50, 200}) {
            for (int vowel : new int[] {LOW, -1, w + 1, HIGH}) {
                String what = "vowel " + vowel + " of " + w;
                refused(what, Edges::song, rows -> rows.syllable(0, 2, w, vowel, true), OUTSIDE);
            }
            for (int vowel : new int[] {0, 1, w - 1, w}) {
                WordRows rows = after(notes(1));
                due("vowel " + vowel + " of " + w, rows.syllable(0, 2, w, vowel, false), 1);
                rows.align(2, 2);
                rows.place();
                due("set by vowel " + vowel, rows.x(0, 0), vowel);
            }
        }
    }

    static void syllablesAreCounted() {
        says("3: how many are there (1, 2). ROOM: two are there");
        taken("the first", notes(1), rows -> rows.syllable(0, 0, 1, 0, false), 1);
        Past one = both(notes(1), rows -> rows.syllable(0, 0, 1, 0, false));
        taken("the second", one, rows -> rows.syllable(0, 0, 1, 0, true), 2);
        Past two = both(one, rows -> {
            rows.syllable(0, 0, 1, 0, true);
            rows.place();
        });
        refused("the third", two, rows -> rows.syllable(0, 0, 1, 0, false), ROOM);
        refused("the third, as great as can be", two, rows -> rows.syllable(0, 0, 200, 200, true), ROOM);
        refused("the third in a song", Edges::song, rows -> rows.syllable(1, 0, 5, 0, false), ROOM);
        taken("another verse has its own", two, rows -> rows.syllable(0, 1, 1, 0, false), 1);
        taken("after wipe()", both(two, rows -> rows.wipe(0, 0)), rows -> rows.syllable(0, 0, 1, 0, false), 1);
    }

    static void syllableOfRest() {
        says("3: STATE: a REST");
        for (int v = 0; v < 4; v++) {
            int verse = v;
            refused("verse " + v, Edges::song, rows -> rows.syllable(2, verse, 1, 0, false), STATE);
        }
        taken("the note ahead of it", Edges::song, rows -> rows.syllable(1, 1, 1, 0, false), 1);
        taken("the note behind it", Edges::song, rows -> rows.syllable(3, 1, 1, 0, false), 1);
    }

    static void syllableInMelisma() {
        says("3: STATE: a NOTE of a MELISMA behind its first");
        Past twenty = both(notes(22), rows -> {
            rows.melisma(1, 20);
            rows.place();
        });
        for (int v = 0; v < 4; v++) {
            int verse = v;
            taken("the one ahead, verse " + v, twenty, rows -> rows.syllable(0, verse, 1, 0, false), 1);
            taken("its first, verse " + v, twenty, rows -> rows.syllable(1, verse, 1, 0, false), 1);
            refused("its second, verse " + v, twenty, rows -> rows.syllable(2, verse, 1, 0, false), STATE);
            refused("its last, verse " + v, twenty, rows -> rows.syllable(20, verse, 1, 0, false), STATE);
            taken("the one behind, verse " + v, twenty, rows -> rows.syllable(21, verse, 1, 0, false), 1);
        }
    }

    static void syllableInRefrain() {
        says("3: STATE: VERSES 1 to 3 in a REFRAIN");
        Past refrain = both(notes(5), rows -> {
            rows.refrain(1, 3);
            rows.place();
        });
        for (int note = 1; note < 4; note++) {
            int at = note;
            taken("verse 0, note " + note, refrain, rows -> rows.syllable(at, 0, 1, 0, false), 1);
            for (int v = 1; v < 4; v++) {
                int verse = v;
                refused("verse " + v + ", note " + note, refrain, rows -> rows.syllable(at, verse, 1, 0, false), STATE);
            }
        }
        for (int v = 1; v < 4; v++) {
            int verse = v;
            taken("ahead of it, verse " + v, refrain, rows -> rows.syllable(0, verse, 1, 0, false), 1);
            taken("behind it, verse " + v, refrain, rows -> rows.syllable(4, verse, 1, 0, false), 1);
        }
    }

    // ---- promise 4, wipe

    static void wipeAnswersHowMany() {
        says("4: The SYLLABLES of a NOTE in a VERSE are gone: how many");
        taken("none", Edges::song, rows -> rows.wipe(0, 2), 0);
        taken("one", Edges::song, rows -> rows.wipe(0, 0), 1);
        taken("two", Edges::song, rows -> rows.wipe(1, 0), 2);
        taken("none of a rest", Edges::song, rows -> rows.wipe(2, 0), 0);
        taken("none in a melisma", Edges::song, rows -> rows.wipe(4, 0), 0);
        taken("none in a refrain", Edges::song, rows -> rows.wipe(5, 1), 0);
        WordRows rows = after(Edges::song);
        rows.wipe(1, 0);
        due("they are gone", rows.wipe(1, 0), 0);
        due("two less in all", rows.told(1), 9);
        due("there is no box", rows.box(1, 0, 0), UNKNOWN);
        due("another verse keeps its own", rows.wipe(1, 2), 1);
    }

    // ---- promise 5, chord

    static void chordWidth() {
        says("5: A CHORD has this WIDTH. OUTSIDE; 1: a WIDTH (1 to 200)");
        for (int w : new int[] {LOW, -1, 201, HIGH}) {
            refused("width " + w + " where one is", Edges::song, rows -> rows.chord(0, w), OUTSIDE);
            refused("width " + w + " where none is", Edges::song, rows -> rows.chord(1, w), OUTSIDE);
        }
        for (int w : new int[] {1, 2, 199, 200}) {
            WordRows rows = after(notes(2));
            due("width " + w, rows.chord(0, w), 0);
            due("it is counted", rows.told(6), 1);
            rows.chord(1, 1);
            rows.place();
            due("the next chord behind width " + w, rows.x(1, 0), Math.max(20, w + 10));
            due("what it was", rows.chord(0, 7), w);
        }
    }

    static void chordIsGone() {
        says("5: (0: there is none any more): what it was (0: there was none)");
        taken("there was none", Edges::song, rows -> rows.chord(1, 0), 0);
        taken("there was one", Edges::song, rows -> rows.chord(3, 0), 15);
        taken("there is none any more", both(Edges::song, r -> r.chord(3, 0)), rows -> rows.chord(3, 0), 0);
        taken("one less", both(Edges::song, r -> r.chord(3, 0)), rows -> rows.told(6), 1);
        taken("none more", both(Edges::song, r -> r.chord(1, 0)), rows -> rows.told(6), 2);
        taken("another width is not one more", both(Edges::song, r -> r.chord(3, 200)), rows -> rows.told(6), 2);
        taken("over a rest", Edges::song, rows -> rows.chord(2, 200), 0);
    }

    // ---- promise 6, melisma

    static void melismaSize() {
        says("6: OUTSIDE: n; 1: some NOTES side by side (2 to 20)");
        Past many = both(notes(30), rows -> {
            rows.melisma(28, 2);
            rows.place();
        });
        for (int n : new int[] {LOW, -1, 0, 1, 21, 22, HIGH}) {
            refused("n " + n, many, rows -> rows.melisma(0, n), OUTSIDE);
        }
        for (int n : new int[] {2, 3, 19, 20}) {
            WordRows rows = after(many);
            due("n " + n, rows.melisma(1, n), 2);
            due("ahead of it", rows.in(0, 0), NONE);
            due("its first", rows.in(1, 0), 1);
            due("its last", rows.in(n, 0), 1);
            due("behind it", rows.in(n + 1, 0), NONE);
        }
    }

    static void melismaNotes() {
        says("6: OUTSIDE: there are not so many NOTES from there on");
        for (int n = 2; n <= 20; n++) {
            int some = n;
            Past enough = both(notes(20), WordRows::place);
            taken("the last " + n, enough, rows -> rows.melisma(20 - some, some), 1);
            refused("one too few for " + n, enough, rows -> rows.melisma(21 - some, some), OUTSIDE);
        }
        refused("one note alone", notes(1), rows -> rows.melisma(0, 2), OUTSIDE);
        taken("two notes", notes(2), rows -> rows.melisma(0, 2), 1);
        refused("the sixtieth alone", notes(60), rows -> rows.melisma(59, 2), OUTSIDE);
        taken("the last two of sixty", notes(60), rows -> rows.melisma(58, 2), 1);
        taken("the last twenty of sixty", notes(60), rows -> rows.melisma(40, 20), 1);
        refused("the last nineteen of sixty", notes(60), rows -> rows.melisma(41, 20), OUTSIDE);
    }

    static void melismaWithRest() {
        says("6: STATE: one is a REST");
        for (int rest = 0; rest < 5; rest++) {
            int at = rest;
            Past past = rows -> {
                for (int i = 0; i < 5; i++) {
                    rows.note(10, 1, i == at);
                }
                rows.place();
            };
            if (rest >= 1 && rest <= 3) {
                refused("rest " + rest, past, rows -> rows.melisma(1, 3), STATE);
            } else {
                taken("rest " + rest + " is beside it", past, rows -> rows.melisma(1, 3), 1);
            }
        }
    }

    static void melismaOfAnother() {
        says("6: STATE: one is of another MELISMA");
        Past past = both(notes(9), rows -> {
            rows.melisma(3, 3);
            rows.place();
        });
        refused("its last is the other's first", past, rows -> rows.melisma(2, 2), STATE);
        refused("its first is the other's last", past, rows -> rows.melisma(5, 2), STATE);
        refused("within the other", past, rows -> rows.melisma(4, 2), STATE);
        refused("round the other", past, rows -> rows.melisma(1, 7), STATE);
        refused("the same", past, rows -> rows.melisma(3, 3), STATE);
        taken("up to the other", past, rows -> rows.melisma(1, 2), 2);
        taken("from the other on", past, rows -> rows.melisma(6, 3), 2);
    }

    static void melismaWithSyllable() {
        says("6: STATE: one behind the first has a SYLLABLE");
        for (int v = 0; v < 4; v++) {
            int verse = v;
            for (int note = 0; note < 5; note++) {
                int at = note;
                Past past = both(notes(5), rows -> {
                    rows.syllable(at, verse, 5, 0, false);
                    rows.place();
                });
                String what = "verse " + v + ", note " + note;
                if (note == 2 || note == 3) {
                    refused(what, past, rows -> rows.melisma(1, 3), STATE);
                    taken(what + " wiped", both(past, r -> r.wipe(at, verse)), rows -> rows.melisma(1, 3), 1);
                } else {
                    taken(what, past, rows -> rows.melisma(1, 3), 1);
                }
            }
        }
    }

    static void melismasAreCounted() {
        says("6: A MELISMA of n NOTES: how many there are (no greatest number: thirty of two among sixty notes)");
        WordRows rows = after(notes(60));
        for (int i = 0; i < 30; i++) {
            due("melisma " + i, rows.melisma(2 * i, 2), i + 1);
        }
        due("thirty", rows.told(2), 30);
        due("none more", rows.melisma(58, 2), STATE);
    }

    // ---- promise 7, refrain

    static void refrainSize() {
        says("7: OUTSIDE: n; 1: some NOTES side by side (1 to 60)");
        for (int n : new int[] {LOW, -1, 0, 61, 62, HIGH}) {
            refused("n " + n, both(notes(60), WordRows::place), rows -> rows.refrain(0, n), OUTSIDE);
            refused("n " + n + " in a song", Edges::song, rows -> rows.refrain(3, n), OUTSIDE);
        }
        for (int n : new int[] {1, 2, 59, 60}) {
            WordRows rows = after(notes(60));
            due("n " + n, rows.refrain(0, n), 1);
            due("its first", rows.in(0, 1), 0);
            due("its last", rows.in(n - 1, 1), 0);
            due("behind it", rows.in(n, 1), n == 60 ? UNKNOWN : NONE);
        }
    }

    static void refrainNotes() {
        says("7: OUTSIDE: there are not so many");
        Past five = both(notes(5), WordRows::place);
        for (int n = 1; n <= 5; n++) {
            int some = n;
            taken("the last " + n, five, rows -> rows.refrain(5 - some, some), 1);
            refused("one too few for " + (n + 1), five, rows -> rows.refrain(5 - some, some + 1), OUTSIDE);
        }
        refused("sixty of fifty-nine", notes(59), rows -> rows.refrain(0, 60), OUTSIDE);
        refused("sixty from the second on", notes(60), rows -> rows.refrain(1, 60), OUTSIDE);
        taken("the sixtieth alone", notes(60), rows -> rows.refrain(59, 1), 1);
        refused("two from the sixtieth on", notes(60), rows -> rows.refrain(59, 2), OUTSIDE);
    }

    static void refrainOfAnother() {
        says("7: STATE: one is of another REFRAIN");
        Past past = both(notes(9), rows -> {
            rows.refrain(3, 3);
            rows.place();
        });
        refused("its last is the other's first", past, rows -> rows.refrain(2, 2), STATE);
        refused("its first is the other's last", past, rows -> rows.refrain(5, 2), STATE);
        refused("one within the other", past, rows -> rows.refrain(4, 1), STATE);
        refused("round the other", past, rows -> rows.refrain(0, 9), STATE);
        refused("the same", past, rows -> rows.refrain(3, 3), STATE);
        refused("in a song", Edges::song, rows -> rows.refrain(4, 2), STATE);
        taken("up to the other", past, rows -> rows.refrain(0, 3), 2);
        taken("from the other on", past, rows -> rows.refrain(6, 3), 2);
    }

    static void refrainWithSyllable() {
        says("7: STATE: one has a SYLLABLE in VERSES 1 to 3");
        for (int v = 0; v < 4; v++) {
            int verse = v;
            for (int note = 0; note < 5; note++) {
                int at = note;
                Past past = both(notes(5), rows -> {
                    rows.syllable(at, verse, 5, 0, false);
                    rows.place();
                });
                String what = "verse " + v + ", note " + note;
                if (verse > 0 && note >= 1 && note <= 3) {
                    refused(what, past, rows -> rows.refrain(1, 3), STATE);
                    taken(what + " wiped", both(past, r -> r.wipe(at, verse)), rows -> rows.refrain(1, 3), 1);
                } else {
                    taken(what, past, rows -> rows.refrain(1, 3), 1);
                }
            }
        }
    }

    static void refrainWithSyllableInSong() {
        says("7: STATE: one has a SYLLABLE in VERSES 1 to 3: also of a TRANSLATION");
        refused("verses 1 and 3", Edges::song, rows -> rows.refrain(6, 1), STATE);
        refused("verse 2, a translation", Edges::song, rows -> rows.refrain(3, 2), STATE);
        taken("none", Edges::song, rows -> rows.refrain(7, 1), 2);
    }

    static void refrainRoom() {
        says("7: how many there are. ROOM; 1: three REFRAINS at most");
        Past two = both(notes(8), rows -> {
            rows.refrain(0, 1);
            rows.refrain(2, 1);
        });
        taken("the third", two, rows -> rows.refrain(4, 1), 3);
        Past three = both(two, rows -> rows.refrain(4, 1));
        taken("three are told", three, rows -> rows.told(3), 3);
        refused("the fourth", three, rows -> rows.refrain(6, 1), ROOM);
        refused("the fourth, of two", three, rows -> rows.refrain(6, 2), ROOM);
        Past song = both(Edges::song, rows -> {
            rows.refrain(7, 1);
            rows.refrain(4, 1);
        });
        taken("three are told in a song", song, rows -> rows.told(3), 3);
        refused("the fourth in a song", song, rows -> rows.refrain(2, 1), ROOM);
        taken("the first after clear()", both(three, r -> {
            r.clear();
            r.note(10, 1, false);
        }), rows -> rows.refrain(0, 1), 1);
    }

    static void restsAndMelismasMayBeInRefrains() {
        says("7: A REFRAIN of n NOTES (STATE tells of no RESTS and no MELISMAS)");
        taken("a rest, and a melisma's notes", rows -> {
            rows.note(10, 1, true);
            rows.note(10, 1, false);
            rows.note(10, 1, false);
            rows.melisma(1, 2);
        }, rows -> rows.refrain(0, 2), 1);
        taken("a melisma in a refrain", both(notes(3), r -> r.refrain(0, 3)), rows -> rows.melisma(1, 2), 1);
    }

    // ---- promises 8 to 10

    static void alignWay() {
        says("8: A VERSE is set in a WAY (0 to 2): which it was. OUTSIDE");
        for (int way : new int[] {LOW, -1, 3, HIGH}) {
            for (int v = 0; v < 4; v++) {
                int verse = v;
                refused("way " + way + " of verse " + v, Edges::song, rows -> rows.align(verse, way), OUTSIDE);
            }
        }
        WordRows rows = after(Edges::song);
        for (int v = 0; v < 4; v++) {
            due("at first, or as set", rows.align(v, 0), v == 0 ? 1 : v == 2 ? 2 : 0);
            due("from the least", rows.align(v, 2), 0);
            due("from the greatest", rows.align(v, 1), 2);
            due("as it is already", rows.align(v, 1), 1);
        }
    }

    static void translationWas() {
        says("9: A VERSE is a TRANSLATION, or not: what it was (1, 0)");
        WordRows rows = after(Edges::song);
        for (int v = 0; v < 4; v++) {
            due("as set", rows.translation(v, true), v == 2 ? 1 : 0);
            due("on already", rows.translation(v, true), 1);
            due("off", rows.translation(v, false), 1);
            due("off already", rows.translation(v, false), 0);
        }
    }

    static void limitBounds() {
        says("10: THE LIMIT: what it was. OUTSIDE; 2: THE LIMIT (100 to 30000; 2000 at first)");
        for (int w : new int[] {LOW, -100, 0, 99, 30001, HIGH}) {
            refused("limit " + w, Edges::song, rows -> rows.limit(w), OUTSIDE);
        }
        WordRows rows = new WordRows();
        due("at first", rows.limit(100), 2000);
        due("the least", rows.limit(30000), 100);
        due("the greatest", rows.limit(101), 30000);
        due("just above the least", rows.limit(29999), 101);
        due("just below the greatest", rows.limit(29999), 29999);
    }

    // ---- what a box is

    static void boxOfOneOrTwo() {
        says("1: the BOX of one is its WIDTH; of two, their WIDTHS and 5");
        int[][] widths = {{1, 0, 1}, {200, 0, 200}, {1, 1, 7}, {1, 200, 206}, {200, 1, 206}, {200, 200, 405}};
        for (int[] w : widths) {
            WordRows rows = after(notes(1));
            rows.syllable(0, 0, w[0], 0, false);
            if (w[1] > 0) {
                rows.syllable(0, 0, w[1], 0, false);
            }
            rows.place();
            due("box of " + w[0] + " and " + w[1], rows.box(0, 0, 1), w[2]);
            due("tied", rows.box(0, 0, 2), w[1] > 0 ? 1 : 0);
        }
    }

    static void boxGoesOnAsItsLast() {
        says("1: a BOX GOES ON or ENDS as its last SYLLABLE does, its VOWEL is that of its first one");
        for (int kind = 0; kind < 4; kind++) {
            boolean first = kind % 2 == 1;
            boolean last = kind / 2 == 1;
            WordRows rows = after(notes(2));
            rows.align(0, 2);
            rows.syllable(0, 0, 30, 4, first);
            rows.syllable(0, 0, 30, 20, last);
            rows.syllable(1, 0, 5, 0, false);
            rows.place();
            due("the vowel of the first", rows.x(0, 0), 4);
            due("the gap by the last", rows.box(1, 0, 0), 65 + (last ? 4 : 12));
        }
    }
}
