/** "Calls answer, the first of these that fits: UNKNOWN, OUTSIDE, STATE, ROOM; then nothing changes", call by call. */
public final class OrderTest extends Edges {
    public static void main(String[] args) {
        runAll(OrderTest.class);
    }

    private static Past full() {
        return both(notes(60), WordRows::place);
    }

    private static void threeRefrains(WordRows rows) {
        notes(6).goes(rows);
        rows.note(10, 1, true);
        for (int i = 0; i < 3; i++) {
            rows.refrain(i, 1);
        }
        rows.syllable(4, 2, 5, 0, false);
        rows.place();
    }

    static void note() {
        says("2: OUTSIDE; ROOM");
        refused("width", full(), rows -> rows.note(9, 1, false), OUTSIDE);
        refused("length", full(), rows -> rows.note(200, 65, true), OUTSIDE);
        refused("both", full(), rows -> rows.note(201, 0, false), OUTSIDE);
        refused("neither", full(), rows -> rows.note(10, 1, false), ROOM);
    }

    static void syllable() {
        says("3: UNKNOWN; OUTSIDE; STATE; ROOM");
        refused("no note, a wrong width", Edges::song, rows -> rows.syllable(8, 0, 0, 0, false), UNKNOWN);
        refused("no note, a wrong vowel", Edges::song, rows -> rows.syllable(-1, 0, 5, 6, false), UNKNOWN);
        refused("no verse, a wrong width", Edges::song, rows -> rows.syllable(0, 4, 201, 0, false), UNKNOWN);
        refused("no verse, a rest", Edges::song, rows -> rows.syllable(2, 4, 5, 0, false), UNKNOWN);
        refused("no verse, in a melisma", Edges::song, rows -> rows.syllable(4, -1, 5, 0, false), UNKNOWN);
        refused("no verse, in a refrain", Edges::song, rows -> rows.syllable(5, 4, 5, 0, false), UNKNOWN);
        refused("no verse, two are there", Edges::song, rows -> rows.syllable(1, 4, 5, 0, false), UNKNOWN);
        refused("no verse, a wrong width, a rest", Edges::song, rows -> rows.syllable(2, 4, 0, 0, false), UNKNOWN);
        refused("a wrong width, a rest", Edges::song, rows -> rows.syllable(2, 0, 0, 0, false), OUTSIDE);
        refused("a wrong vowel, a rest", Edges::song, rows -> rows.syllable(2, 0, 5, 6, false), OUTSIDE);
        refused("a wrong width, in a melisma", Edges::song, rows -> rows.syllable(4, 0, 201, 0, false), OUTSIDE);
        refused("a wrong vowel, in a refrain", Edges::song, rows -> rows.syllable(5, 1, 5, -1, false), OUTSIDE);
        refused("a wrong width, two are there", Edges::song, rows -> rows.syllable(1, 0, 0, 0, false), OUTSIDE);
        refused("a wrong vowel, two are there", Edges::song, rows -> rows.syllable(1, 0, 5, 6, false), OUTSIDE);
    }

    static void chord() {
        says("5: UNKNOWN; OUTSIDE");
        refused("no note, width -1", Edges::song, rows -> rows.chord(8, -1), UNKNOWN);
        refused("no note, width 201", Edges::song, rows -> rows.chord(-1, 201), UNKNOWN);
    }

    static void melisma() {
        says("6: UNKNOWN: from; OUTSIDE: n, or there are not so many NOTES; STATE");
        refused("no note, n 1", Edges::song, rows -> rows.melisma(8, 1), UNKNOWN);
        refused("no note, n 21", Edges::song, rows -> rows.melisma(-1, 21), UNKNOWN);
        refused("no note, too few", Edges::song, rows -> rows.melisma(HIGH, HIGH), UNKNOWN);
        refused("n 1 at a rest", Edges::song, rows -> rows.melisma(2, 1), OUTSIDE);
        refused("n 21 at a rest", Edges::song, rows -> rows.melisma(2, 21), OUTSIDE);
        refused("n 1 in another", Edges::song, rows -> rows.melisma(3, 1), OUTSIDE);
        refused("too few, from a rest", Edges::song, rows -> rows.melisma(2, 7), OUTSIDE);
        refused("too few, from another", Edges::song, rows -> rows.melisma(3, 6), OUTSIDE);
        refused("too few, words behind the first", Edges::song, rows -> rows.melisma(5, 4), OUTSIDE);
        refused("enough, words behind the first", Edges::song, rows -> rows.melisma(5, 3), STATE);
    }

    static void refrain() {
        says("7: UNKNOWN: from; OUTSIDE: n, or there are not so many; STATE; ROOM");
        refused("no note, n 0", OrderTest::threeRefrains, rows -> rows.refrain(7, 0), UNKNOWN);
        refused("no note, n 61", OrderTest::threeRefrains, rows -> rows.refrain(-1, 61), UNKNOWN);
        refused("no note, three are there", OrderTest::threeRefrains, rows -> rows.refrain(7, 1), UNKNOWN);
        refused("n 0 in another", OrderTest::threeRefrains, rows -> rows.refrain(1, 0), OUTSIDE);
        refused("n 61 in another", OrderTest::threeRefrains, rows -> rows.refrain(1, 61), OUTSIDE);
        refused("too few from another", OrderTest::threeRefrains, rows -> rows.refrain(2, 6), OUTSIDE);
        refused("too few with words", OrderTest::threeRefrains, rows -> rows.refrain(4, 4), OUTSIDE);
        refused("n 0, three are there", OrderTest::threeRefrains, rows -> rows.refrain(3, 0), OUTSIDE);
        refused("too few, three are there", OrderTest::threeRefrains, rows -> rows.refrain(5, 3), OUTSIDE);
        refused("of another, three are there", OrderTest::threeRefrains, rows -> rows.refrain(2, 2), STATE);
        refused("with words, three are there", OrderTest::threeRefrains, rows -> rows.refrain(3, 2), STATE);
        refused("three are there", OrderTest::threeRefrains, rows -> rows.refrain(5, 2), ROOM);
    }

    static void align() {
        says("8: UNKNOWN; OUTSIDE");
        refused("no verse, way -1", Edges::song, rows -> rows.align(4, -1), UNKNOWN);
        refused("no verse, way 3", Edges::song, rows -> rows.align(-1, 3), UNKNOWN);
    }

    static void x() {
        says("12: UNKNOWN; OUTSIDE; STATE");
        refused("no note, what 2, no places", Edges::unplacedSong, rows -> rows.x(8, 2), UNKNOWN);
        refused("no note, no places", Edges::unplacedSong, rows -> rows.x(-1, 0), UNKNOWN);
        refused("no note, what -1", Edges::song, rows -> rows.x(8, -1), UNKNOWN);
        refused("what 2, no places", Edges::unplacedSong, rows -> rows.x(0, 2), OUTSIDE);
        refused("what -1, no places", Edges::unplacedSong, rows -> rows.x(0, -1), OUTSIDE);
        refused("no places", Edges::unplacedSong, rows -> rows.x(7, 1), STATE);
    }

    static void box() {
        says("13: UNKNOWN: also no BOX; OUTSIDE; STATE");
        refused("no note, what 5, no places", Edges::unplacedSong, rows -> rows.box(8, 0, 5), UNKNOWN);
        refused("no verse, what 5, no places", Edges::unplacedSong, rows -> rows.box(0, 4, 5), UNKNOWN);
        refused("no box, what 5, no places", Edges::unplacedSong, rows -> rows.box(7, 0, 5), UNKNOWN);
        refused("no box, no places", Edges::unplacedSong, rows -> rows.box(7, 0, 0), UNKNOWN);
        refused("no box, what -1", Edges::song, rows -> rows.box(2, 0, -1), UNKNOWN);
        refused("no verse, what -1", Edges::song, rows -> rows.box(0, -1, -1), UNKNOWN);
        refused("what 5, no places", Edges::unplacedSong, rows -> rows.box(0, 0, 5), OUTSIDE);
        refused("what -1, no places", Edges::unplacedSong, rows -> rows.box(0, 0, -1), OUTSIDE);
        refused("no places", Edges::unplacedSong, rows -> rows.box(0, 0, 4), STATE);
    }

    static void hyphens() {
        says("14: UNKNOWN: also no BOX; STATE");
        refused("no note, no places", Edges::unplacedSong, rows -> rows.hyphens(8, 0), UNKNOWN);
        refused("no verse, no places", Edges::unplacedSong, rows -> rows.hyphens(0, 4), UNKNOWN);
        refused("no box, no places", Edges::unplacedSong, rows -> rows.hyphens(7, 0), UNKNOWN);
        refused("no places", Edges::unplacedSong, rows -> rows.hyphens(0, 0), STATE);
    }

    static void hyphen() {
        says("15: UNKNOWN, STATE as hyphens(). ArrayIndexOutOfBounds");
        refused("no note, no places, no hyphen", Edges::unplacedSong, rows -> rows.hyphen(8, 0, -1), UNKNOWN);
        refused("no verse, no places, no hyphen", Edges::unplacedSong, rows -> rows.hyphen(0, 4, 999), UNKNOWN);
        refused("no box, no places, no hyphen", Edges::unplacedSong, rows -> rows.hyphen(7, 0, -1), UNKNOWN);
        refused("no box, no hyphen", Edges::song, rows -> rows.hyphen(7, 0, -1), UNKNOWN);
        refused("no places, no hyphen", Edges::unplacedSong, rows -> rows.hyphen(0, 0, -1), STATE);
        refused("no places, it ends", Edges::unplacedSong, rows -> rows.hyphen(3, 0, 0), STATE);
        refusedIndex("it ends", Edges::song, rows -> rows.hyphen(3, 0, 0));
    }

    static void line() {
        says("16: UNKNOWN: also no BOX; OUTSIDE; STATE; NONE");
        refused("no note, what 2, no places", Edges::unplacedSong, rows -> rows.line(8, 0, 2), UNKNOWN);
        refused("no verse, what 2, no places", Edges::unplacedSong, rows -> rows.line(0, 4, 2), UNKNOWN);
        refused("no box, what 2, no places", Edges::unplacedSong, rows -> rows.line(7, 0, 2), UNKNOWN);
        refused("no box, no places", Edges::unplacedSong, rows -> rows.line(7, 0, 0), UNKNOWN);
        refused("no box, what -1", Edges::song, rows -> rows.line(4, 0, -1), UNKNOWN);
        refused("what 2, no places", Edges::unplacedSong, rows -> rows.line(3, 0, 2), OUTSIDE);
        refused("what -1, no places, no line", Edges::unplacedSong, rows -> rows.line(0, 0, -1), OUTSIDE);
        refused("what 2, no line", Edges::song, rows -> rows.line(0, 0, 2), OUTSIDE);
        refused("no places, no line", Edges::unplacedSong, rows -> rows.line(0, 0, 0), STATE);
        refused("no line", Edges::song, rows -> rows.line(0, 0, 0), NONE);
    }

    static void strain() {
        says("17: STATE. Arithmetic");
        refused("no places, no notes", Edges::nothing, WordRows::strain, STATE);
        refused("no places, one note", notes(1), WordRows::strain, STATE);
        refusedArithmetic("no notes", WordRows::place, WordRows::strain);
    }

    static void fault() {
        says("19: UNKNOWN: there is no such one; OUTSIDE");
        refused("no fault, what 3", Edges::song, rows -> rows.fault(-1, 3), UNKNOWN);
        refused("no faults at all, what -1", notes(1), rows -> rows.fault(0, -1), UNKNOWN);
    }

    static void in() {
        says("22: NONE. UNKNOWN; OUTSIDE");
        refused("no note, what 2", Edges::song, rows -> rows.in(8, 2), UNKNOWN);
        refused("no note, what -1", Edges::song, rows -> rows.in(-1, -1), UNKNOWN);
        refused("what 2, in none", Edges::song, rows -> rows.in(0, 2), OUTSIDE);
        refused("in none", Edges::song, rows -> rows.in(0, 0), NONE);
    }

    static void pattern() {
        says("23: OUTSIDE: signs, values; ROOM");
        Past thirty = rows -> {
            for (int i = 0; i < 30; i++) {
                rows.pattern(1, 1);
            }
            rows.letter(1);
            rows.letter(1);
        };
        refused("no signs", thirty, rows -> rows.pattern(0, 0), OUTSIDE);
        refused("a wrong sign", thirty, rows -> rows.pattern(28, 0), OUTSIDE);
        refused("values below 0", thirty, rows -> rows.pattern(1, -1), OUTSIDE);
        refused("too many values", thirty, rows -> rows.pattern(1, 100), OUTSIDE);
        refused("neither", thirty, rows -> rows.pattern(1, 99), ROOM);
    }

    static void letter() {
        says("24: OUTSIDE; ROOM");
        Past full = rows -> {
            for (int i = 0; i < 24; i++) {
                rows.letter(1);
            }
        };
        refused("letter -1", full, rows -> rows.letter(-1), OUTSIDE);
        refused("letter 27", full, rows -> rows.letter(27), OUTSIDE);
        refused("letter 26", full, rows -> rows.letter(26), ROOM);
    }
}
