/** The sentences on FAULTS, of paragraph 3 and of promises 18 to 22, 28 and 29 that name an edge, each by a test. */
public final class ToldEdgesTest extends Edges {
    public static void main(String[] args) {
        runAll(ToldEdgesTest.class);
    }

    private static void faultsAre(String what, Past past, int[]... want) {
        WordRows rows = after(past);
        due(what + ": how many", rows.faults(), want.length);
        for (int i = 0; i < want.length; i++) {
            for (int asked = 0; asked < 3; asked++) {
                due(what + ": fault(" + i + ", " + asked + ")", rows.fault(i, asked), want[i][asked]);
            }
        }
        due(what + ": no more", rows.fault(want.length, 0), UNKNOWN);
    }

    private static int[] fault(int which, int verse, int note) {
        return new int[] {which, verse, note};
    }

    // ---- promises 18 and 19, faults

    static void noFaults() {
        says("18: How many FAULTS there are: none");
        faultsAre("a new object", Edges::nothing);
        faultsAre("notes without words", notes(3));
        faultsAre("a word on each note", both(notes(2), rows -> {
            rows.syllable(0, 0, 5, 0, true);
            rows.syllable(1, 0, 5, 0, false);
        }));
    }

    static void verseHasSomeBox() {
        says("1: FAULTS: 1 a NOTE lacks a BOX: of a VERSE that has some BOX");
        for (int v = 0; v < 4; v++) {
            int verse = v;
            Past one = both(notes(2), rows -> rows.syllable(1, verse, 5, 0, false));
            faultsAre("verse " + v, one, fault(1, v, 0));
            faultsAre("wiped, verse " + v, both(one, rows -> rows.wipe(1, verse)));
        }
    }

    static void translationLacksNone() {
        says("1: FAULTS: 1 of a VERSE that is no TRANSLATION");
        Past one = both(notes(2), rows -> {
            rows.syllable(0, 1, 5, 0, false);
            rows.translation(1, true);
        });
        faultsAre("on", one);
        faultsAre("off", both(one, rows -> rows.translation(1, false)), fault(1, 1, 1));
    }

    static void restLacksNone() {
        says("1: FAULTS: 1 a NOTE that is no REST");
        faultsAre("a rest", rows -> {
            rows.note(10, 1, false);
            rows.note(10, 1, true);
            rows.syllable(0, 0, 5, 0, false);
        });
    }

    static void melismaLacksNoneBehindItsFirst() {
        says("1: FAULTS: 1 not in a MELISMA behind its first one");
        Past past = both(notes(5), rows -> {
            rows.melisma(1, 3);
            rows.syllable(0, 2, 5, 0, false);
        });
        faultsAre("its first lacks one", past, fault(1, 2, 1), fault(1, 2, 4));
    }

    static void refrainLacksNoneInVerses1To3() {
        says("1: FAULTS: 1 (of VERSES 1 to 3) not in a REFRAIN");
        for (int v = 0; v < 4; v++) {
            int verse = v;
            Past past = both(notes(4), rows -> {
                rows.refrain(1, 2);
                rows.syllable(0, verse, 5, 0, false);
            });
            if (v == 0) {
                faultsAre("verse 0", past, fault(1, 0, 1), fault(1, 0, 2), fault(1, 0, 3));
            } else {
                faultsAre("verse " + v, past, fault(1, v, 3));
            }
        }
    }

    static void goesOnToNothing() {
        says("1: FAULTS: 2 a BOX GOES ON, and its VERSE has no BOX behind it");
        for (int v = 0; v < 4; v++) {
            int verse = v;
            Past last = both(notes(1), rows -> rows.syllable(0, verse, 5, 0, true));
            faultsAre("the last note, verse " + v, last, fault(2, v, 0));
            Past behind = both(last, rows -> {
                rows.note(10, 1, true);
                rows.note(10, 1, false);
            });
            faultsAre("notes behind it, verse " + v, behind, fault(2, v, 0), fault(1, v, 2));
            Past box = both(behind, rows -> rows.syllable(2, verse, 5, 0, false));
            faultsAre("a box behind it, verse " + v, box);
            Past other = both(behind, rows -> rows.syllable(2, (verse + 1) % 4, 5, 0, false));
            due("a box of another verse behind it", after(other).faults(), 3);
            Past tied = both(last, rows -> rows.syllable(0, verse, 5, 0, false));
            faultsAre("its last syllable ends, verse " + v, tied);
        }
    }

    static void sixtiethGoesOnToNothing() {
        says("1: FAULTS: 2 a BOX GOES ON, and its VERSE has no BOX behind it: the last of sixty NOTES");
        for (int v = 0; v < 4; v++) {
            int verse = v;
            Past past = both(notes(60), rows -> {
                rows.translation(verse, true);
                rows.syllable(58, verse, 5, 0, true);
                rows.syllable(59, verse, 5, 0, true);
            });
            faultsAre("verse " + v, past, fault(2, v, 59));
        }
    }

    static void translationMayGoOnToNothing() {
        says("1: FAULTS: 2 (of any VERSE)");
        faultsAre("a translation", both(notes(2), rows -> {
            rows.translation(3, true);
            rows.syllable(0, 3, 5, 0, true);
        }), fault(2, 3, 0));
    }

    static void faultsInOrder() {
        says("1: FAULTS, by VERSES, then by NOTES");
        Past past = both(notes(3), rows -> {
            rows.syllable(1, 2, 5, 0, true);
            rows.syllable(2, 0, 5, 0, true);
        });
        faultsAre("two verses", past, fault(1, 0, 0), fault(1, 0, 1), fault(2, 0, 2),
                fault(1, 2, 0), fault(2, 2, 1), fault(1, 2, 2));
    }

    static void asManyFaultsAsCanBe() {
        says("18, 19: as many FAULTS as there can be");
        Past past = both(notes(60), rows -> {
            for (int v = 0; v < 4; v++) {
                rows.syllable(0, v, 5, 0, true);
            }
        });
        taken("240", past, WordRows::faults, 240);
        taken("the first", past, rows -> rows.fault(0, 0), 2);
        taken("the last: which", past, rows -> rows.fault(239, 0), 1);
        taken("the last: verse", past, rows -> rows.fault(239, 1), 3);
        taken("the last: note", past, rows -> rows.fault(239, 2), 59);
        refused("one more", past, rows -> rows.fault(240, 0), UNKNOWN);
    }

    static void faultIsNotThere() {
        says("19: UNKNOWN: there is no such one");
        int found = after(Edges::song).faults();
        for (int i : new int[] {LOW, -1, found, found + 1, 240, HIGH}) {
            for (int what = 0; what < 3; what++) {
                int asked = what;
                refused("fault " + i, Edges::song, rows -> rows.fault(i, asked), UNKNOWN);
            }
        }
        refused("of none", notes(1), rows -> rows.fault(0, 0), UNKNOWN);
        Past one = both(notes(1), rows -> rows.syllable(0, 0, 5, 0, true));
        taken("the first of one", one, rows -> rows.fault(0, 0), 2);
        refused("the second of one", one, rows -> rows.fault(1, 0), UNKNOWN);
    }

    static void faultWhat() {
        says("19: which (what = 0), the VERSE (1), the NOTE (2). OUTSIDE");
        Past one = both(notes(4), rows -> {
            rows.translation(1, true);
            rows.syllable(3, 1, 5, 0, true);
        });
        taken("what 0", one, rows -> rows.fault(0, 0), 2);
        taken("what 1", one, rows -> rows.fault(0, 1), 1);
        taken("what 2", one, rows -> rows.fault(0, 2), 3);
        for (int what : new int[] {LOW, -1, 3, 4, HIGH}) {
            refused("what " + what, Edges::song, rows -> rows.fault(0, what), OUTSIDE);
        }
    }

    // ---- promises 20 and 21, verses that share

    /** Verses 1 and 2 have the same words under three notes, none of another verse. */
    private static void pair(WordRows rows) {
        notes(3).goes(rows);
        for (int v = 1; v < 3; v++) {
            rows.syllable(0, v, 5, 2, true);
            rows.syllable(2, v, 7, 3, true);
            rows.syllable(2, v, 9, 4, false);
        }
        rows.place();
    }

    private static void shares(String what, Past change, int want) {
        taken(what, both(ToldEdgesTest::pair, change), rows -> rows.shares(2), want);
        taken(what + ": row", both(ToldEdgesTest::pair, change), rows -> rows.row(2), want == NONE ? 1 : 0);
    }

    static void alikeVersesHaveBoxes() {
        says("3: VERSES are ALIKE, if both have BOXES");
        shares("both have", Edges::nothing, 1);
        for (int v = 0; v < 4; v++) {
            int verse = v;
            taken("none have, verse " + v, notes(3), rows -> rows.shares(verse), NONE);
        }
        Past wiped = both(ToldEdgesTest::pair, rows -> {
            for (int v = 1; v < 3; v++) {
                rows.wipe(0, v);
                rows.wipe(2, v);
            }
        });
        taken("none have any more", wiped, rows -> rows.shares(2), NONE);
        Past refrainAlone = both(notes(2), rows -> {
            rows.refrain(1, 1);
            rows.syllable(1, 0, 5, 0, false);
        });
        taken("verse 0 has one in a refrain, verse 1 none", refrainAlone, rows -> rows.shares(1), NONE);
        taken("verse 0 has none", ToldEdgesTest::pair, rows -> rows.shares(1), NONE);
        taken("verse 3 has none", ToldEdgesTest::pair, rows -> rows.shares(3), NONE);
    }

    static void alikeVersesHaveTheSameWay() {
        says("3: ALIKE: the same WAY");
        for (int one = 0; one < 3; one++) {
            for (int other = 0; other < 3; other++) {
                int a = one;
                int b = other;
                shares("ways " + a + " and " + b, rows -> {
                    rows.align(1, a);
                    rows.align(2, b);
                }, a == b ? 1 : NONE);
            }
        }
    }

    static void alikeVersesAreBothTranslations() {
        says("3: ALIKE: both or none are TRANSLATIONS");
        for (int kind = 0; kind < 4; kind++) {
            boolean a = kind % 2 == 1;
            boolean b = kind / 2 == 1;
            shares("translations " + a + " and " + b, rows -> {
                rows.translation(1, a);
                rows.translation(2, b);
            }, a == b ? 1 : NONE);
        }
    }

    /** Under note 2 of verse 2 these two syllables instead of (7, 3, true) and (9, 4, false). */
    private static Past otherWords(int w1, int vowel1, boolean on1, int w2, int vowel2, boolean on2) {
        return rows -> {
            rows.wipe(2, 2);
            rows.syllable(2, 2, w1, vowel1, on1);
            rows.syllable(2, 2, w2, vowel2, on2);
        };
    }

    static void alikeVersesHaveTheSameSyllables() {
        says("3: ALIKE: under each NOTE the same SYLLABLES (WIDTHS, VOWELS, going on)");
        shares("the same", otherWords(7, 3, true, 9, 4, false), 1);
        shares("another first width", otherWords(8, 3, true, 9, 4, false), NONE);
        shares("another first vowel", otherWords(7, 2, true, 9, 4, false), NONE);
        shares("the first ends", otherWords(7, 3, false, 9, 4, false), NONE);
        shares("another second width", otherWords(7, 3, true, 10, 4, false), NONE);
        shares("another second vowel", otherWords(7, 3, true, 9, 5, false), NONE);
        shares("the second goes on", otherWords(7, 3, true, 9, 4, true), NONE);
        shares("one is tied", rows -> rows.syllable(0, 2, 1, 0, true), NONE);
        shares("the other one is tied", rows -> rows.syllable(0, 1, 1, 0, true), NONE);
        shares("one lacks a box", rows -> rows.wipe(0, 2), NONE);
        shares("the other one lacks a box", rows -> rows.wipe(0, 1), NONE);
        shares("one has a box more", rows -> rows.syllable(1, 2, 1, 0, true), NONE);
        shares("both have a box more", rows -> {
            rows.syllable(1, 1, 1, 0, true);
            rows.syllable(1, 2, 1, 0, true);
        }, 1);
    }

    static void refrainsDoNotCount() {
        says("3: ALIKE: under each NOTE outside of REFRAINS");
        Past past = both(notes(4), rows -> {
            rows.refrain(1, 2);
            rows.syllable(0, 0, 5, 0, false);
            rows.syllable(0, 3, 5, 0, false);
            rows.syllable(1, 0, 5, 0, false);
            rows.syllable(2, 0, 5, 0, false);
        });
        taken("words in the refrain", past, rows -> rows.shares(3), 0);
        taken("ahead of it", both(past, r -> r.wipe(0, 0)), rows -> rows.shares(3), NONE);
        taken("behind it", both(past, r -> r.syllable(3, 0, 5, 0, false)), rows -> rows.shares(3), NONE);
        taken("behind it both", both(past, r -> {
            r.syllable(3, 0, 5, 0, false);
            r.syllable(3, 3, 5, 0, false);
        }), rows -> rows.shares(3), 0);
    }

    private static void sameWord(WordRows rows, int... verses) {
        rows.note(10, 1, false);
        for (int v : verses) {
            rows.syllable(0, v, 5, 0, false);
        }
    }

    static void sharesWithTheLeast() {
        says("20: The VERSE with which one SHARES; NONE; 3: the least one that it is ALIKE with, if that is less");
        int[] want = {NONE, 0, 0, 0};
        for (int v = 0; v < 4; v++) {
            int verse = v;
            taken("all alike, " + v, r -> sameWord(r, 0, 1, 2, 3), rows -> rows.shares(verse), want[v]);
        }
        taken("the least of three is 1", r -> sameWord(r, 1, 2, 3), rows -> rows.shares(3), 1);
        taken("the least has a greater one alone", r -> sameWord(r, 1, 2, 3), rows -> rows.shares(1), NONE);
        taken("the last two", r -> sameWord(r, 2, 3), rows -> rows.shares(3), 2);
        taken("one alone", r -> sameWord(r, 3), rows -> rows.shares(3), NONE);
    }

    static void sharesUnderSixtyNotes() {
        says("3: ALIKE: under each NOTE: up to the last of sixty");
        Past past = both(notes(60), rows -> {
            for (int v = 0; v < 4; v++) {
                rows.syllable(59, v, 5, 0, false);
                rows.syllable(59, v, 6, 0, false);
            }
        });
        taken("the same", past, rows -> rows.shares(3), 0);
        taken("one row", past, rows -> rows.row(3), 0);
        taken("one wiped", both(past, r -> r.wipe(59, 0)), rows -> rows.shares(3), 1);
        taken("one more", both(past, r -> r.syllable(58, 1, 5, 0, true)), rows -> rows.shares(1), NONE);
    }

    static void rowWithoutBoxes() {
        says("21: The ROW of a VERSE; NONE: it has no BOXES");
        for (int v = 0; v < 4; v++) {
            int verse = v;
            taken("none, verse " + v, notes(1), rows -> rows.row(verse), NONE);
            taken("a word, verse " + v, r -> sameWord(r, verse), rows -> rows.row(verse), 0);
            taken("wiped, verse " + v, r -> {
                sameWord(r, verse);
                r.wipe(0, verse);
            }, rows -> rows.row(verse), NONE);
        }
    }

    private static void rowsAre(String what, Past past, int... want) {
        for (int v = 0; v < 4; v++) {
            int verse = v;
            taken(what + ": row " + v, past, rows -> rows.row(verse), want[v]);
        }
    }

    static void rowsInOrder() {
        says("3: ROWS: of VERSES that have BOXES and do not SHARE, 0, 1, .. in order; one that SHARES is in that of the"
                + " other one");
        rowsAre("all alike", r -> sameWord(r, 0, 1, 2, 3), 0, 0, 0, 0);
        rowsAre("all set in other ways", r -> {
            sameWord(r, 0, 1, 2, 3);
            r.align(1, 1);
            r.align(2, 2);
            r.translation(3, true);
        }, 0, 1, 2, 3);
        rowsAre("1 and 3 alike", r -> {
            sameWord(r, 0, 1, 2, 3);
            r.align(1, 1);
            r.align(2, 2);
            r.align(3, 1);
        }, 0, 1, 2, 1);
        rowsAre("two pairs", r -> {
            sameWord(r, 0, 1, 2, 3);
            r.align(2, 2);
            r.align(3, 2);
        }, 0, 0, 1, 1);
        rowsAre("verse 0 has none, 2 and 3 alike", r -> {
            sameWord(r, 1, 2, 3);
            r.align(1, 1);
        }, NONE, 0, 1, 1);
        rowsAre("0 and 2 alone", r -> {
            sameWord(r, 0, 2);
            r.align(2, 1);
        }, 0, NONE, 1, NONE);
    }

    // ---- promise 22, in

    static void inWhat() {
        says("22: the MELISMA (what = 0), the REFRAIN (1). OUTSIDE");
        for (int what : new int[] {LOW, -1, 2, 3, HIGH}) {
            for (int note = 0; note < 8; note++) {
                int at = note;
                refused("what " + what + " of " + note, Edges::song, rows -> rows.in(at, what), OUTSIDE);
            }
        }
    }

    static void inNone() {
        says("22: The first NOTE of the MELISMA, the REFRAIN in which a NOTE is; NONE");
        int[] melismas = {NONE, NONE, NONE, 3, 3, NONE, NONE, NONE};
        int[] refrains = {NONE, NONE, NONE, NONE, NONE, 5, NONE, NONE};
        for (int note = 0; note < 8; note++) {
            int at = note;
            taken("melisma of " + note, Edges::song, rows -> rows.in(at, 0), melismas[note]);
            taken("refrain of " + note, Edges::song, rows -> rows.in(at, 1), refrains[note]);
        }
        Past edge = both(notes(60), rows -> {
            rows.melisma(0, 2);
            rows.refrain(0, 60);
        });
        taken("from note 0 on", edge, rows -> rows.in(1, 0), 0);
        taken("up to note 59", edge, rows -> rows.in(59, 1), 0);
    }

    // ---- promise 28, told

    static void toldWhat() {
        says("28: NOTES (what = 0) to whether PLACES are told (7). OUTSIDE");
        int[] want = {8, 11, 1, 1, 2, 9, 2, 1};
        for (int what = 0; what < 8; what++) {
            int asked = what;
            taken("what " + what, Edges::song, rows -> rows.told(asked), want[what]);
        }
        for (int what : new int[] {LOW, -1, 8, 9, HIGH}) {
            refused("what " + what, Edges::song, rows -> rows.told(what), OUTSIDE);
            refused("what " + what + " of a new object", Edges::nothing, rows -> rows.told(what), OUTSIDE);
        }
    }

    static void toldOfFullObject() {
        says("28: what a full object tells");
        WordRows rows = after(notes(60));
        for (int i = 0; i < 60; i++) {
            rows.chord(i, 200);
            rows.syllable(i, 0, 200, 0, true);
            rows.syllable(i, 0, 200, 0, true);
        }
        for (int i = 0; i < 30; i++) {
            rows.pattern(1, 0);
        }
        for (int i = 0; i < 24; i++) {
            rows.letter(1);
        }
        for (int i = 0; i < 3; i++) {
            rows.refrain(20 * i, 20);
        }
        rows.place();
        int[] want = {60, 120, 0, 3, 30, 24, 60, 1};
        for (int what = 0; what < 8; what++) {
            due("told(" + what + ")", rows.told(what), want[what]);
        }
        due("no note more", rows.note(10, 1, false), ROOM);
        due("no syllable more", rows.syllable(59, 0, 1, 0, false), ROOM);
        due("no pattern more", rows.pattern(1, 0), ROOM);
        due("no letter more", rows.letter(1), ROOM);
        for (int what = 0; what < 8; what++) {
            due("told(" + what + ") as before", rows.told(what), want[what]);
        }
    }

    static void placesToldWithoutNotes() {
        says("28: whether PLACES are told (7)");
        taken("no place()", Edges::nothing, rows -> rows.told(7), 0);
        taken("place() without notes", WordRows::place, rows -> rows.told(7), 1);
        taken("since it a note", both(WordRows::place, notes(1)), rows -> rows.told(7), 0);
        taken("since it clear()", both(WordRows::place, WordRows::clear), rows -> rows.told(7), 0);
    }

    // ---- promise 29, clear

    static void clearAnswersNotes() {
        says("29: how many NOTES there were");
        for (int n : new int[] {0, 1, 59, 60}) {
            taken(n + " notes", notes(n), WordRows::clear, n);
            taken(n + " notes, again", both(notes(n), WordRows::clear), WordRows::clear, 0);
        }
        taken("a song", Edges::song, WordRows::clear, 8);
    }

    static void clearIsAsTheBeginning() {
        says("29: All is as at the beginning");
        Past cleared = both(Edges::song, WordRows::clear);
        tellAlike("cleared", cleared, Edges::nothing);
        tellAlike("and notes", both(cleared, notes(9)), notes(9));
        tellAlike("and a song", both(cleared, Edges::unplacedSong), Edges::unplacedSong);
        tellAlike("and a song with places", both(cleared, Edges::song), Edges::song);
        tellAlike("twice", both(cleared, WordRows::clear), Edges::nothing);
        Past full = both(notes(60), rows -> {
            for (int i = 0; i < 30; i++) {
                rows.pattern(1, 1);
            }
            for (int i = 0; i < 24; i++) {
                rows.letter(1);
            }
            rows.cuts();
            rows.clear();
        });
        tellAlike("a full one", full, Edges::nothing);
        tellAlike("a full one and a pattern", both(full, r -> r.pattern(1, 0)), r -> r.pattern(1, 0));
    }

    static void theLastCallsAnswer() {
        says("An object is used for at most 512 calls after it has been made");
        WordRows rows = new WordRows();
        int calls = 0;
        for (int round = 0; round < 8; round++) {
            for (int i = 0; i < 60; i++) {
                due("note " + i, rows.note(10, 1, false), i);
            }
            due("place", rows.place(), 0);
            due("the last x", rows.x(59, 0), 1180);
            due("clear", rows.clear(), 60);
            calls += 63;
        }
        while (calls < 511) {
            due("a letter", rows.letter(0), 0);
            calls++;
        }
        due("call 512", rows.note(10, 1, false), 0);
    }
}
