/** The sentences of paragraph 2 and of promises 11 to 17 that name an edge, each by a test of its own. */
public final class PlaceEdgesTest extends Edges {
    public static void main(String[] args) {
        runAll(PlaceEdgesTest.class);
    }

    /** So many notes 20 apart, verse 0 without an offset, no words. */
    private static Past rowOf(int n) {
        return both(notes(n), rows -> rows.align(0, 1));
    }

    private static WordRows placedAfter(Past past) {
        WordRows rows = after(past);
        rows.place();
        return rows;
    }

    // ---- placing: the rules for x

    static void xNotBelowZero() {
        says("2: x is not below 0");
        due("a note alone", placedAfter(notes(1)).x(0, 0), 0);
        due("a rest alone", placedAfter(rows -> rows.note(200, 64, true)).x(0, 0), 0);
        due("a chord alone", placedAfter(both(notes(1), rows -> rows.chord(0, 200))).x(0, 0), 0);
    }

    static void xNotBelowOffset() {
        says("2: not below the OFFSET of each BOX under it; 0 half the BOX (at first); cut off toward 0");
        int[][] widthsAndX = {{1, 0}, {2, 1}, {3, 1}, {199, 99}, {200, 100}};
        for (int[] one : widthsAndX) {
            for (int v = 0; v < 4; v++) {
                int verse = v;
                WordRows rows = placedAfter(both(notes(1), r -> r.syllable(0, verse, one[0], 0, false)));
                due("width " + one[0] + " in verse " + v, rows.x(0, 0), one[1]);
                due("its box", rows.box(0, v, 0), 0);
            }
        }
        int[][] tiedAndX = {{1, 1, 3}, {1, 2, 4}, {200, 199, 202}, {200, 200, 202}};
        for (int[] one : tiedAndX) {
            WordRows rows = placedAfter(both(notes(1), r -> {
                r.syllable(0, 0, one[0], 0, false);
                r.syllable(0, 0, one[1], 0, false);
            }));
            due("widths " + one[0] + " and " + one[1] + ", tied", rows.x(0, 0), one[2]);
        }
        Past two = both(notes(2), r -> r.syllable(1, 0, 41, 0, false));
        due("an offset of 20 at 20", placedAfter(two).x(1, 0), 20);
        Past wider = both(notes(2), r -> r.syllable(1, 0, 42, 0, false));
        due("an offset of 21 at 20", placedAfter(wider).x(1, 0), 21);
        due("pushed by 1", placedAfter(wider).x(1, 1), 1);
    }

    static void wayOneHasNoOffset() {
        says("2: its BOX begins at its NOTE's x less an OFFSET: 1 none");
        WordRows rows = placedAfter(both(rowOf(1), r -> r.syllable(0, 0, 200, 200, false)));
        due("x", rows.x(0, 0), 0);
        due("its box", rows.box(0, 0, 0), 0);
    }

    static void wayTwoIsTheVowel() {
        says("2: its BOX begins at its NOTE's x less an OFFSET: 2 its VOWEL");
        for (int vowel : new int[] {0, 1, 199, 200}) {
            WordRows rows = placedAfter(both(notes(1), r -> {
                r.align(3, 2);
                r.syllable(0, 3, 200, vowel, false);
            }));
            due("vowel " + vowel, rows.x(0, 0), vowel);
            due("its box", rows.box(0, 3, 0), 0);
        }
    }

    static void xBehindTheNoteBefore() {
        says("2: not below that of the NOTE before it, and its WIDTH, and 10 times its LENGTH");
        int[][] notes = {{10, 1, 20}, {200, 1, 210}, {10, 64, 650}, {200, 64, 840}};
        for (int[] one : notes) {
            for (boolean rest : new boolean[] {false, true}) {
                WordRows rows = placedAfter(r -> {
                    r.note(one[0], one[1], rest);
                    r.note(10, 1, rest);
                });
                due("behind " + one[0] + ", " + one[1], rows.x(1, 0), one[2]);
                due("not pushed", rows.x(1, 1), 0);
            }
        }
    }

    /** The x of note 1, 20 if nothing pushes it, behind a box of verse 0 of this width. */
    private static int xBehindBox(int width, boolean goesOn) {
        return placedAfter(both(rowOf(2), rows -> {
            rows.syllable(0, 0, width, 0, goesOn);
            rows.syllable(1, 0, 5, 0, false);
        })).x(1, 0);
    }

    static void gapBehindOneThatGoesOn() {
        says("2: a GAP or more behind the end of the BOX before it in the VERSE: 4, if that GOES ON");
        due("it ends at 15", xBehindBox(15, true), 20);
        due("it ends at 16", xBehindBox(16, true), 20);
        due("it ends at 17", xBehindBox(17, true), 21);
        due("it ends at 200", xBehindBox(200, true), 204);
    }

    static void gapBehindOneThatEnds() {
        says("2: a GAP or more behind the end of the BOX before it in the VERSE: 12, if it ENDS");
        due("it ends at 7", xBehindBox(7, false), 20);
        due("it ends at 8", xBehindBox(8, false), 20);
        due("it ends at 9", xBehindBox(9, false), 21);
        due("it ends at 200", xBehindBox(200, false), 212);
    }

    static void boxBeforeIsOfTheSameVerse() {
        says("2: for each VERSE that has a BOX here (the BOX before it in the VERSE)");
        Past past = both(rowOf(3), rows -> {
            rows.syllable(0, 0, 100, 0, false);
            rows.syllable(1, 1, 2, 0, false);
            rows.syllable(2, 0, 1, 0, false);
        });
        WordRows rows = placedAfter(past);
        due("no box of verse 0 here", rows.x(1, 0), 20);
        due("the box before is two notes back", rows.x(2, 0), 112);
        due("pushed", rows.x(2, 1), 72);
    }

    static void chordBehindChord() {
        says("2: its CHORD begins 10 or more behind the end of the CHORD before it");
        int[][] widthsAndX = {{1, 20}, {9, 20}, {10, 20}, {11, 21}, {200, 210}};
        for (int[] one : widthsAndX) {
            WordRows rows = placedAfter(both(notes(3), r -> {
                r.chord(0, one[0]);
                r.chord(1, 1);
            }));
            due("behind width " + one[0], rows.x(1, 0), one[1]);
            due("no chord, not pushed", rows.x(2, 1), 0);
        }
        WordRows far = placedAfter(both(notes(3), r -> {
            r.chord(0, 31);
            r.chord(2, 1);
        }));
        due("no chord between", far.x(1, 0), 20);
        due("the chord before is two notes back", far.x(2, 0), 41);
    }

    static void pushedOfTheFirst() {
        says("2: PUSHED (of the first NOTE: x itself)");
        due("not pushed", placedAfter(notes(1)).x(0, 1), 0);
        Past box = both(notes(1), r -> r.syllable(0, 0, 3, 0, false));
        due("pushed by 1", placedAfter(box).x(0, 1), 1);
    }

    static void pushedOfOthers() {
        says("2: PUSHED is what x is more than the second of these rules alone would make of the x of the NOTE before");
        WordRows rows = placedAfter(both(rowOf(3), r -> {
            r.syllable(0, 0, 17, 0, true);
            r.syllable(1, 0, 16, 0, true);
            r.syllable(2, 0, 1, 0, true);
        }));
        due("by 1", rows.x(1, 1), 1);
        due("what pushed the one before is no push here", rows.x(2, 1), 0);
        due("its x", rows.x(2, 0), 41);
    }

    // ---- translations

    static void translationPushesNothing() {
        says("2: VERSES that are no TRANSLATION push; a TRANSLATION does not");
        for (int v = 0; v < 4; v++) {
            int verse = v;
            Past past = both(notes(2), rows -> {
                rows.syllable(0, verse, 200, 0, false);
                rows.syllable(1, verse, 200, 0, false);
                rows.translation(verse, true);
            });
            due("x of the first, verse " + v, placedAfter(past).x(0, 0), 0);
            due("x of the second, verse " + v, placedAfter(past).x(1, 0), 20);
            Past off = both(past, rows -> rows.translation(verse, false));
            due("it pushes again, verse " + v, placedAfter(off).x(1, 0), 312);
        }
    }

    /** Where the box of note 1 begins: a translation in way 2, whose first box has this width. */
    private static int translationBegins(int width, boolean goesOn, int vowel) {
        return placedAfter(both(notes(2), rows -> {
            rows.align(0, 2);
            rows.translation(0, true);
            rows.syllable(0, 0, width, 0, goesOn);
            rows.syllable(1, 0, 50, vowel, false);
        })).box(1, 0, 0);
    }

    static void translationBeginsAtTheGreatest() {
        says("2: A BOX of a TRANSLATION begins at the greatest of 0, x less its OFFSET, and the end of the BOX before"
                + " it in its VERSE and the GAP");
        due("x less its offset", translationBegins(1, true, 10), 10);
        due("both alike: 6 and 4, 20 less 10", translationBegins(6, true, 10), 10);
        due("the gap by 1: 7 and 4", translationBegins(7, true, 10), 11);
        due("one that ends, alike: 3 and 12, 20 less 5", translationBegins(3, false, 5), 15);
        due("one that ends, by 1: 4 and 12", translationBegins(4, false, 5), 16);
        for (int vowel : new int[] {19, 20, 21, 50}) {
            int v = vowel;
            WordRows rows = placedAfter(both(notes(2), r -> {
                r.align(0, 2);
                r.translation(0, true);
                r.syllable(1, 0, 50, v, false);
            }));
            due("not below 0, vowel " + vowel, rows.box(1, 0, 0), vowel == 19 ? 1 : 0);
        }
    }

    // ---- promise 11, place: OVERFULL

    static void overfullOfNothing() {
        says("11: PLACING: OVERFULL, or 0: without NOTES");
        taken("no notes", Edges::nothing, WordRows::place, 0);
        taken("no notes, the least limit", rows -> rows.limit(100), WordRows::place, 0);
    }

    static void overfullOfTheLastNote() {
        says("2: OVERFULL: the last NOTE: its x and WIDTH; above THE LIMIT, or 0");
        for (int w : new int[] {99, 100, 101, 200}) {
            Past past = rows -> {
                rows.limit(100);
                rows.note(w, 64, false);
            };
            taken("width " + w, past, WordRows::place, Math.max(0, w - 100));
        }
        Past two = both(notes(5), rows -> rows.limit(100));
        taken("80 and 10", two, WordRows::place, 0);
    }

    static void overfullOfBoxes() {
        says("2: OVERFULL: the greatest of all ends, of BOXES; above THE LIMIT, or 0");
        for (int w : new int[] {99, 100, 101, 200}) {
            for (int v = 0; v < 4; v++) {
                for (boolean on : new boolean[] {false, true}) {
                    int verse = v;
                    Past past = both(notes(2), rows -> {
                        rows.limit(100);
                        rows.align(verse, 1);
                        rows.translation(verse, on);
                        rows.syllable(0, verse, w, 0, false);
                    });
                    taken("width " + w + ", verse " + v + ", " + on, past, WordRows::place, Math.max(0, w - 100));
                }
            }
        }
    }

    static void overfullOfChords() {
        says("2: OVERFULL: the greatest of all ends, of CHORDS; above THE LIMIT, or 0");
        for (int w : new int[] {99, 100, 101, 200}) {
            for (int at = 0; at < 2; at++) {
                int note = at;
                Past past = both(notes(2), rows -> {
                    rows.limit(100);
                    rows.chord(note, w);
                });
                taken("width " + w + " at " + at, past, WordRows::place, Math.max(0, 20 * at + w - 100));
            }
        }
    }

    static void overfullAtTheGreatestLimit() {
        says("2: THE LIMIT (100 to 30000): OVERFULL at the greatest one");
        for (int width : new int[] {190, 191}) {
            Past past = rows -> {
                for (int i = 0; i < 35; i++) {
                    rows.note(200, 64, true);
                }
                rows.note(width, 21, true);
                rows.note(200, 64, true);
                rows.limit(30000);
            };
            taken("an end at " + (29810 + width), past, WordRows::place, width - 190);
        }
        Past longest = rows -> {
            for (int i = 0; i < 60; i++) {
                rows.note(200, 64, false);
            }
        };
        taken("the longest row, 2000 at first", longest, WordRows::place, 59 * 840 + 200 - 2000);
        Past wide = both(longest, rows -> rows.limit(30000));
        taken("the longest row", wide, WordRows::place, 59 * 840 + 200 - 30000);
        due("its last note", placedAfter(longest).x(59, 0), 59 * 840);
    }

    static void firstLimit() {
        says("2: THE LIMIT (2000 at first)");
        for (int width : new int[] {110, 111}) {
            Past past = rows -> {
                for (int i = 0; i < 2; i++) {
                    rows.note(200, 64, false);
                }
                rows.note(width, 1, false);
                rows.note(200, 1, false);
            };
            taken("an end at " + (1890 + width), past, WordRows::place, width - 110);
        }
    }

    // ---- promise 12, x

    static void xWhat() {
        says("12: x of a NOTE (what = 0), PUSHED (1). OUTSIDE");
        for (int what : new int[] {LOW, -1, 2, 3, HIGH}) {
            refused("what " + what, Edges::song, rows -> rows.x(0, what), OUTSIDE);
            refused("what " + what + " of the last", Edges::song, rows -> rows.x(7, what), OUTSIDE);
        }
        Past past = both(notes(1), rows -> {
            rows.syllable(0, 0, 7, 0, false);
            rows.note(10, 1, false);
            rows.place();
        });
        taken("what 0", past, rows -> rows.x(1, 0), 23);
        taken("what 1", past, rows -> rows.x(1, 1), 0);
        taken("what 1 of the first", past, rows -> rows.x(0, 1), 3);
    }

    // ---- promise 13, box

    static void boxWhat() {
        says("13: Of a BOX: (what = 0) to (4). OUTSIDE");
        for (int what : new int[] {LOW, -1, 5, 6, HIGH}) {
            refused("what " + what, Edges::song, rows -> rows.box(0, 0, what), OUTSIDE);
            refused("what " + what + " of a translation", Edges::song, rows -> rows.box(1, 2, what), OUTSIDE);
        }
        Past past = both(notes(2), rows -> {
            rows.syllable(1, 3, 11, 0, false);
            rows.syllable(1, 3, 9, 0, false);
            rows.place();
        });
        int[] want = {20 - 12, 25, 1, 20 - 12 + 25, 1};
        for (int what = 0; what < 5; what++) {
            int asked = what;
            taken("what " + what, past, rows -> rows.box(1, 3, asked), want[what]);
        }
    }

    static void boxIsNotThere() {
        says("13: UNKNOWN: also no BOX");
        for (int what = 0; what < 5; what++) {
            int asked = what;
            refused("a rest", Edges::song, rows -> rows.box(2, 0, asked), UNKNOWN);
            refused("behind the first of a melisma", Edges::song, rows -> rows.box(4, 0, asked), UNKNOWN);
            refused("a box in another verse alone", Edges::song, rows -> rows.box(6, 0, asked), UNKNOWN);
            refused("a box in verse 0 of a refrain alone", Edges::song, rows -> rows.box(5, 1, asked), UNKNOWN);
        }
        Past wiped = both(Edges::song, rows -> {
            rows.wipe(0, 0);
            rows.place();
        });
        refused("wiped", wiped, rows -> rows.box(0, 0, 0), UNKNOWN);
    }

    static void xWithinBox() {
        says("13: whether its NOTE's x is within it (its ends, too; 4)");
        for (int vowel : new int[] {0, 1, 49, 50}) {
            Past past = both(notes(1), rows -> {
                rows.align(0, 2);
                rows.syllable(0, 0, 50, vowel, false);
                rows.place();
            });
            taken("x at " + vowel + " of a box from 0 to 50", past, rows -> rows.box(0, 0, 4), 1);
        }
        for (int width : new int[] {15, 16, 17}) {
            Past past = both(rowOf(2), rows -> {
                rows.translation(0, true);
                rows.syllable(0, 0, width, 0, true);
                rows.syllable(1, 0, 5, 0, false);
                rows.place();
            });
            taken("where it begins, behind " + width, past, rows -> rows.box(1, 0, 0), Math.max(20, width + 4));
            taken("x at 20, behind " + width, past, rows -> rows.box(1, 0, 4), width <= 16 ? 1 : 0);
        }
    }

    // ---- promises 14 and 15, hyphens

    /** Two boxes of verse 0 with this room (4 to 600) between them. */
    private static Past roomOf(int room, boolean goesOn) {
        return rows -> {
            rows.align(0, 1);
            rows.note(10, 1 + room / 10, false);
            rows.note(10, 1, false);
            rows.syllable(0, 0, 20 - room % 10, 0, goesOn);
            rows.syllable(1, 0, 5, 0, true);
            rows.place();
        };
    }

    private static void hyphensAre(int room, int n) {
        Past past = roomOf(room, true);
        WordRows rows = after(past);
        due("the room", rows.box(1, 0, 0) - rows.box(0, 0, 3), room);
        due("how many in " + room, rows.hyphens(0, 0), n);
        int end = rows.box(0, 0, 3);
        for (int k = 0; k < n; k++) {
            due("hyphen " + k + " in " + room, rows.hyphen(0, 0, k), end + (2 * k + 1) * room / (2 * n) - 3);
        }
        refusedIndex("hyphen " + n + " in " + room, past, r -> r.hyphen(0, 0, n));
        refusedIndex("hyphen -1 in " + room, past, r -> r.hyphen(0, 0, -1));
    }

    static void hyphensBelowTen() {
        says("14, 2: ROOM is from the end of the one to the beginning of the other; below 10 there is none");
        hyphensAre(4, 0);
        hyphensAre(9, 0);
        hyphensAre(10, 1);
        hyphensAre(11, 1);
    }

    static void hyphensByRoom() {
        says("14, 2: else 1 and (ROOM less 10) / 80 of them; cut off toward 0");
        for (int n = 1; n < 7; n++) {
            hyphensAre(80 * n - 70, n);
            hyphensAre(80 * n - 69, n);
            hyphensAre(80 * n + 9, n);
        }
    }

    static void hyphensOfTheGreatestRoom() {
        says("14, 15: as many HYPHENS as there can be");
        Past past = rows -> {
            for (int i = 0; i < 60; i++) {
                rows.note(200, 64, false);
            }
            rows.align(0, 1);
            rows.syllable(0, 0, 1, 0, true);
            rows.syllable(59, 0, 1, 0, false);
            rows.place();
        };
        int room = 59 * 840 - 1;
        int n = 1 + (room - 10) / 80;
        due("how many the test wants", n, 620);
        taken("how many", past, rows -> rows.hyphens(0, 0), n);
        taken("the first", past, rows -> rows.hyphen(0, 0, 0), 1 + room / (2 * n) - 3);
        taken("the last", past, rows -> rows.hyphen(0, 0, n - 1), 1 + (2 * n - 1) * room / (2 * n) - 3);
        refusedIndex("one more", past, rows -> rows.hyphen(0, 0, n));
    }

    static void hyphensBehindOneThatEnds() {
        says("14, 15: HYPHENS stand between a BOX that GOES ON and the next one in its VERSE");
        taken("it ends", roomOf(500, false), rows -> rows.hyphens(0, 0), 0);
        refusedIndex("it ends", roomOf(500, false), rows -> rows.hyphen(0, 0, 0));
        taken("no next one", roomOf(500, true), rows -> rows.hyphens(1, 0), 0);
        refusedIndex("no next one", roomOf(500, true), rows -> rows.hyphen(1, 0, 0));
        taken("the next one of another verse", Edges::song, rows -> rows.hyphens(5, 0), 0);
        Past tied = both(roomOf(500, true), rows -> {
            rows.syllable(0, 0, 1, 0, false);
            rows.place();
        });
        taken("its last syllable ends", tied, rows -> rows.hyphens(0, 0), 0);
    }

    static void hyphensWithoutBox() {
        says("14: UNKNOWN: also no BOX");
        refused("a rest", Edges::song, rows -> rows.hyphens(2, 0), UNKNOWN);
        refused("in a melisma", Edges::song, rows -> rows.hyphens(4, 0), UNKNOWN);
        refused("another verse has one", Edges::song, rows -> rows.hyphens(6, 0), UNKNOWN);
    }

    static void hyphenWithoutBox() {
        says("15: UNKNOWN as hyphens()");
        for (int k : new int[] {LOW, -1, 0, HIGH}) {
            refused("a rest, " + k, Edges::song, rows -> rows.hyphen(2, 0, k), UNKNOWN);
            refused("in a melisma, " + k, Edges::song, rows -> rows.hyphen(4, 0, k), UNKNOWN);
            refused("another verse has one, " + k, Edges::song, rows -> rows.hyphen(6, 0, k), UNKNOWN);
        }
    }

    static void hyphenState() {
        says("15: STATE as hyphens()");
        for (int k : new int[] {LOW, -1, 0, 1, HIGH}) {
            refused("hyphen " + k, Edges::unplacedSong, rows -> rows.hyphen(0, 1, k), STATE);
        }
        refused("hyphens", Edges::unplacedSong, rows -> rows.hyphens(0, 1), STATE);
    }

    static void hyphenIsNotThere() {
        says("15: ArrayIndexOutOfBounds: there is no such one");
        for (int k : new int[] {LOW, -2, -1, 2, 3, 1 << 30, HIGH}) {
            refusedIndex("hyphen " + k + " of two", roomOf(100, true), rows -> rows.hyphen(0, 0, k));
        }
        for (int k : new int[] {LOW, -1, 0, 1, HIGH}) {
            refusedIndex("hyphen " + k + " of none", roomOf(9, true), rows -> rows.hyphen(0, 0, k));
            refusedIndex("hyphen " + k + " in a song", Edges::song, rows -> rows.hyphen(3, 0, k));
        }
        taken("the first of two", roomOf(100, true), rows -> rows.hyphen(0, 0, 0), 20 + 25 - 3);
        taken("the last of two", roomOf(100, true), rows -> rows.hyphen(0, 0, 1), 20 + 75 - 3);
    }

    // ---- promise 16, line

    /** A melisma on notes 0 and 1, whose last ends at 30; a box from 0 to width; the next box at 40 less vowel. */
    private static Past melismaWith(int width, boolean goesOn, int vowel) {
        return both(notes(3), rows -> {
            rows.align(0, 2);
            rows.melisma(0, 2);
            rows.syllable(0, 0, width, 0, goesOn);
            if (vowel >= 0) {
                rows.syllable(2, 0, 20, vowel, false);
            }
            rows.place();
        });
    }

    private static void lineIs(String what, Past past, int begin, int end) {
        taken(what + ": begins", past, rows -> rows.line(0, 0, 0), begin);
        taken(what + ": ends", past, rows -> rows.line(0, 0, 1), end);
    }

    static void lineShorterThanTen() {
        says("16, 2: NONE: there is none, if it would be shorter than 10");
        lineIs("11 long", melismaWith(17, false, -1), 19, 30);
        lineIs("10 long", melismaWith(18, false, -1), 20, 30);
        lineIs("9 long", melismaWith(19, false, -1), NONE, NONE);
        lineIs("it would end ahead of its beginning", melismaWith(200, false, -1), NONE, NONE);
        lineIs("as long as can be here", melismaWith(1, false, -1), 3, 30);
        lineIs("10 long, by the next box", melismaWith(17, false, 7), 19, 29);
        lineIs("9 long, by the next box", melismaWith(17, false, 8), NONE, NONE);
    }

    static void lineUpToTheNextBox() {
        says("16, 2: to the end of the last NOTE, or, if that is less, to 4 before the next BOX of its VERSE begins");
        lineIs("the next box at 35", melismaWith(5, false, 5), 7, 30);
        lineIs("the next box at 34", melismaWith(5, false, 6), 7, 30);
        lineIs("the next box at 33", melismaWith(5, false, 7), 7, 29);
        Past otherVerse = both(melismaWith(5, false, -1), rows -> {
            rows.align(1, 2);
            rows.syllable(2, 1, 30, 20, false);
            rows.place();
        });
        taken("a box of another verse at 20", otherVerse, rows -> rows.box(2, 1, 0), 20);
        lineIs("a box of another verse", otherVerse, 7, 30);
    }

    static void lineOfTheLongestMelisma() {
        says("16, 2: A LINE goes to the end of the last NOTE of that (x and WIDTH): a MELISMA of 20");
        Past past = rows -> {
            for (int i = 0; i < 21; i++) {
                rows.note(200, 64, false);
            }
            rows.align(0, 1);
            rows.melisma(0, 20);
            rows.syllable(0, 0, 1, 0, false);
            rows.place();
        };
        lineIs("20 notes", past, 3, 19 * 840 + 200);
    }

    static void lineOfOneThatGoesOn() {
        says("16, 2: NONE: A LINE goes from a BOX that ENDS");
        lineIs("it goes on", melismaWith(5, true, -1), NONE, NONE);
        Past tied = both(melismaWith(5, true, -1), rows -> {
            rows.syllable(0, 0, 5, 0, false);
            rows.place();
        });
        lineIs("its last syllable ends", tied, 17, 30);
        Past tiedOn = both(melismaWith(5, false, -1), rows -> {
            rows.syllable(0, 0, 5, 0, true);
            rows.place();
        });
        lineIs("its last syllable goes on", tiedOn, NONE, NONE);
    }

    static void lineUnderTheFirstOfMelisma() {
        says("16, 2: NONE: under the first NOTE of a MELISMA");
        Past past = both(notes(5), rows -> {
            rows.align(0, 1);
            rows.melisma(1, 2);
            rows.syllable(0, 0, 1, 0, false);
            rows.syllable(1, 0, 1, 0, false);
            rows.syllable(3, 0, 1, 0, false);
            rows.place();
        });
        taken("the note ahead", past, rows -> rows.line(0, 0, 0), NONE);
        taken("the first note", past, rows -> rows.line(1, 0, 0), 23);
        taken("the note behind", past, rows -> rows.line(3, 0, 0), NONE);
        Past none = both(rowOf(2), rows -> {
            rows.syllable(0, 0, 1, 0, false);
            rows.place();
        });
        lineIs("no melisma at all", none, NONE, NONE);
    }

    static void lineWhat() {
        says("16: where it begins (what = 0), ends (1). OUTSIDE");
        for (int what : new int[] {LOW, -1, 2, 3, HIGH}) {
            refused("what " + what + ", a line", melismaWith(5, false, -1), rows -> rows.line(0, 0, what), OUTSIDE);
            refused("what " + what + ", no line", melismaWith(5, true, -1), rows -> rows.line(0, 0, what), OUTSIDE);
        }
    }

    static void lineWithoutBox() {
        says("16: UNKNOWN: also no BOX");
        for (int what = 0; what < 2; what++) {
            int asked = what;
            refused("a rest", Edges::song, rows -> rows.line(2, 0, asked), UNKNOWN);
            refused("behind the first", Edges::song, rows -> rows.line(4, 0, asked), UNKNOWN);
            refused("another verse has one", Edges::song, rows -> rows.line(3, 1, asked), UNKNOWN);
        }
    }

    // ---- promise 17, strain

    static void strainWithoutNotes() {
        says("17: Arithmetic: there are no NOTES");
        refusedArithmetic("a new object", WordRows::place, WordRows::strain);
        refusedArithmetic("all else is there", Edges::songWithoutNotes, WordRows::strain);
        refusedArithmetic("after clear()", both(Edges::song, rows -> {
            rows.clear();
            rows.place();
        }), WordRows::strain);
    }

    static void strainAtZero() {
        says("17: Arithmetic: that is 0 (the x of the last NOTE)");
        refusedArithmetic("one note", both(notes(1), WordRows::place), WordRows::strain);
        refusedArithmetic("one note, and all else that can be", Edges::shortSong, WordRows::strain);
        Past chord = both(notes(1), rows -> {
            rows.chord(0, 200);
            rows.place();
        });
        refusedArithmetic("one note with a chord", chord, WordRows::strain);
        Past narrow = both(notes(1), rows -> {
            rows.syllable(0, 0, 1, 0, false);
            rows.place();
        });
        refusedArithmetic("half of 1 is 0", narrow, WordRows::strain);
        Past one = both(notes(1), rows -> {
            rows.syllable(0, 0, 2, 0, false);
            rows.place();
        });
        taken("x is 1", one, WordRows::strain, 1000);
    }

    static void strainIsCutOff() {
        says("17: 1000 times what is PUSHED in all by the x of the last NOTE, cut off");
        taken("nothing is pushed", both(notes(2), WordRows::place), WordRows::strain, 0);
        int[][] widthsAndStrains = {{1, 0}, {2, 47}, {3, 47}, {4, 90}, {6, 130}, {200, 833}};
        for (int[] one : widthsAndStrains) {
            Past past = both(notes(2), rows -> {
                rows.syllable(0, 0, one[0], 0, false);
                rows.place();
            });
            taken("a box of " + one[0], past, WordRows::strain, one[1]);
        }
        Past twice = both(notes(2), rows -> {
            rows.syllable(0, 0, 2, 0, false);
            rows.chord(0, 11);
            rows.chord(1, 1);
            rows.place();
        });
        taken("1000 (1 + 1) / 22", twice, WordRows::strain, 90);
        Past sixty = both(notes(60), rows -> {
            rows.syllable(59, 0, 200, 0, false);
            rows.syllable(58, 0, 200, 0, false);
            rows.place();
        });
        taken("1000 * 192 / (1180 + 192)", sixty, WordRows::strain, 139);
    }

    static void strainState() {
        says("17: STATE");
        refused("a new object", Edges::nothing, WordRows::strain, STATE);
        refused("one note", notes(1), WordRows::strain, STATE);
        refused("a song", Edges::unplacedSong, WordRows::strain, STATE);
    }

    // ---- when places are told

    /** Each call that tells of places. */
    private static void noPlaces(String what, Past past) {
        refused(what + ": x", past, rows -> rows.x(0, 0), STATE);
        refused(what + ": pushed", past, rows -> rows.x(0, 1), STATE);
        for (int asked = 0; asked < 5; asked++) {
            int kind = asked;
            refused(what + ": box, " + asked, past, rows -> rows.box(0, 1, kind), STATE);
        }
        refused(what + ": hyphens", past, rows -> rows.hyphens(0, 1), STATE);
        refused(what + ": hyphen", past, rows -> rows.hyphen(0, 1, 0), STATE);
        refused(what + ": line", past, rows -> rows.line(0, 1, 0), STATE);
        refused(what + ": line's end", past, rows -> rows.line(3, 2, 1), STATE);
        refused(what + ": strain", past, WordRows::strain, STATE);
        taken(what + ": told(7)", past, rows -> rows.told(7), 0);
    }

    static void stateIfThereWasNoPlace() {
        says("2: STATE, if there was none (latest place())");
        noPlaces("no place()", Edges::unplacedSong);
    }

    private static void endsPlaces(String what, Ask done, int want) {
        taken(what + " is done", Edges::song, done, want);
        Past since = both(Edges::song, done::of);
        noPlaces(what, since);
        taken(what + ", and place()", both(since, WordRows::place), rows -> rows.told(7), 1);
    }

    static void stateSinceCallThatWasDone() {
        says("2: STATE, if since it a call of note() to limit() was done");
        endsPlaces("note", rows -> rows.note(10, 1, true), 8);
        endsPlaces("syllable", rows -> rows.syllable(7, 0, 1, 0, false), 1);
        endsPlaces("wipe", rows -> rows.wipe(1, 0), 2);
        endsPlaces("chord", rows -> rows.chord(7, 1), 0);
        endsPlaces("melisma", rows -> rows.melisma(6, 2), 2);
        endsPlaces("refrain", rows -> rows.refrain(7, 1), 2);
        endsPlaces("align", rows -> rows.align(3, 2), 0);
        endsPlaces("translation", rows -> rows.translation(3, true), 0);
        endsPlaces("limit", rows -> rows.limit(301), 300);
    }

    static void stateSinceCallToWhatWasSo() {
        says("2: STATE, if since it a call of note() to limit() was done (also to what was so already)");
        endsPlaces("wipe of none", rows -> rows.wipe(7, 0), 0);
        endsPlaces("chord of the same width", rows -> rows.chord(0, 170), 170);
        endsPlaces("no chord where none was", rows -> rows.chord(7, 0), 0);
        endsPlaces("align as it was", rows -> rows.align(2, 2), 2);
        endsPlaces("translation that was one", rows -> rows.translation(2, true), 1);
        endsPlaces("translation that was none", rows -> rows.translation(1, false), 0);
        endsPlaces("limit as it was", rows -> rows.limit(300), 300);
    }

    static void refusedCallsKeepPlaces() {
        says("2: STATE, if since it a call was done (not refused)");
        Past past = both(Edges::song, rows -> {
            rows.note(9, 1, false);
            rows.syllable(0, 4, 1, 0, false);
            rows.syllable(0, 0, 0, 0, false);
            rows.syllable(2, 0, 1, 0, false);
            rows.syllable(1, 0, 1, 0, false);
            rows.wipe(8, 0);
            rows.chord(8, 1);
            rows.chord(0, 201);
            rows.melisma(8, 2);
            rows.melisma(0, 1);
            rows.melisma(3, 2);
            rows.refrain(8, 1);
            rows.refrain(0, 0);
            rows.refrain(5, 1);
            rows.align(4, 0);
            rows.align(0, 3);
            rows.translation(4, true);
            rows.limit(99);
        });
        taken("all of them", past, rows -> rows.told(7), 1);
        taken("x", past, rows -> rows.x(0, 0), 10);
    }

    static void otherCallsKeepPlaces() {
        says("2: STATE, if since it a call of note() to limit() was done: other calls keep the places");
        Past past = both(Edges::song, rows -> {
            rows.x(0, 0);
            rows.box(0, 0, 0);
            rows.hyphens(0, 0);
            rows.line(0, 0, 0);
            rows.strain();
            rows.faults();
            rows.fault(0, 0);
            rows.shares(0);
            rows.row(0);
            rows.in(0, 0);
            rows.pattern(1, 0);
            rows.letter(1);
            rows.letter(0);
            rows.sides(0, 5);
            rows.cuts();
            rows.told(0);
            rows.place();
        });
        taken("all of them", past, rows -> rows.told(7), 1);
        taken("x", past, rows -> rows.x(0, 0), 10);
    }

    static void latestPlace() {
        says("2: What is told of PLACES is that of the latest place()");
        WordRows rows = after(rowOf(2));
        rows.chord(0, 11);
        rows.chord(1, 1);
        rows.place();
        due("at first", rows.x(1, 0), 21);
        rows.chord(0, 12);
        due("not yet placed again", rows.x(1, 0), STATE);
        rows.place();
        due("placed again", rows.x(1, 0), 22);
        rows.place();
        due("placed once more", rows.x(1, 0), 22);
    }
}
