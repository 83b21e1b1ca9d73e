/** The document says of no call that tells something that it changes anything: whatever it answers, nothing changes. */
public final class TellingTest extends Edges {
    public static void main(String[] args) {
        runAll(TellingTest.class);
    }

    /** The call is made with places told and without them, and of an object that has nothing. */
    private static void onlyTells(String what, Ask ask) {
        changesNothing(what, Edges::song, rows -> throwsAway(rows, ask));
        changesNothing(what + ", without places", Edges::unplacedSong, rows -> throwsAway(rows, ask));
        changesNothing(what + ", of a new object", Edges::nothing, rows -> throwsAway(rows, ask));
    }

    private interface OfBox {
        int of(WordRows rows, int note, int verse);
    }

    private static void onlyTellsOfBoxes(OfBox ask) {
        for (int i = 0; i < 8; i++) {
            for (int v = 0; v < 4; v++) {
                int note = i;
                int verse = v;
                onlyTells("note " + i + ", verse " + v, rows -> ask.of(rows, note, verse));
            }
        }
    }

    static void place() {
        says("11: PLACING: OVERFULL: once more, it tells the same again");
        changesNothing("place", Edges::song, WordRows::place);
        changesNothing("place, without notes", Edges::songWithoutNotes, WordRows::place);
        changesNothing("place, sixty notes", Edges::longSong, WordRows::place);
    }

    static void x() {
        says("12: x of a NOTE, PUSHED");
        for (int i = 0; i < 8; i++) {
            int note = i;
            onlyTells("x of " + i, rows -> rows.x(note, 0));
            onlyTells("pushed of " + i, rows -> rows.x(note, 1));
        }
    }

    static void box() {
        says("13: Of a BOX");
        for (int w = 0; w < 5; w++) {
            int what = w;
            onlyTellsOfBoxes((rows, note, verse) -> rows.box(note, verse, what));
        }
    }

    static void hyphens() {
        says("14: How many HYPHENS are behind a BOX");
        onlyTellsOfBoxes(WordRows::hyphens);
    }

    static void hyphen() {
        says("15: Where HYPHEN k begins");
        onlyTellsOfBoxes((rows, note, verse) -> rows.hyphen(note, verse, 0));
        onlyTellsOfBoxes((rows, note, verse) -> rows.hyphen(note, verse, 1));
    }

    static void line() {
        says("16: Of the LINE behind a BOX; NONE");
        onlyTellsOfBoxes((rows, note, verse) -> rows.line(note, verse, 0));
        onlyTellsOfBoxes((rows, note, verse) -> rows.line(note, verse, 1));
        changesNothing("one that is too short", both(Edges::unplacedSong, TellingTest::shortLine),
                rows -> rows.line(6, 0, 0));
    }

    /** A line that would be shorter than 10. */
    private static void shortLine(WordRows rows) {
        rows.melisma(6, 2);
        rows.syllable(6, 0, 200, 0, false);
        rows.place();
        due("its line", rows.line(6, 0, 0), NONE);
    }

    static void strain() {
        says("17: 1000 times what is PUSHED in all by the x of the last NOTE");
        onlyTells("strain", WordRows::strain);
        changesNothing("strain of sixty notes", Edges::longSong, WordRows::strain);
    }

    static void faults() {
        says("18: How many FAULTS there are");
        onlyTells("faults", WordRows::faults);
        changesNothing("faults of sixty notes", Edges::longSong, WordRows::faults);
    }

    static void fault() {
        says("19: Of FAULT i");
        int all = after(Edges::song).faults();
        for (int k = 0; k < all; k++) {
            for (int w = 0; w < 3; w++) {
                int i = k;
                int what = w;
                onlyTells("fault " + k + ", " + w, rows -> rows.fault(i, what));
            }
        }
    }

    static void sharesAndRow() {
        says("20: The VERSE with which one SHARES; NONE. 21: The ROW of a VERSE; NONE");
        for (int v = 0; v < 4; v++) {
            int verse = v;
            onlyTells("shares of " + v, rows -> rows.shares(verse));
            onlyTells("row of " + v, rows -> rows.row(verse));
            Past wordless = both(Edges::unplacedSong, rows -> wipeAll(rows, verse));
            changesNothing("row of " + v + " without boxes", wordless, rows -> rows.row(verse));
            changesNothing("shares of " + v + " without boxes", wordless, rows -> rows.shares(verse));
            Past placed = both(wordless, WordRows::place);
            changesNothing("row of " + v + " without boxes, with places", placed, rows -> rows.row(verse));
            changesNothing("shares of " + v + " without boxes, with places", placed, rows -> rows.shares(verse));
        }
    }

    private static void wipeAll(WordRows rows, int verse) {
        for (int i = 0; i < 8; i++) {
            rows.wipe(i, verse);
        }
        due("row without boxes", rows.row(verse), NONE);
    }

    static void in() {
        says("22: The first NOTE of the MELISMA, the REFRAIN in which a NOTE is; NONE");
        for (int i = 0; i < 8; i++) {
            int note = i;
            onlyTells("melisma of " + i, rows -> rows.in(note, 0));
            onlyTells("refrain of " + i, rows -> rows.in(note, 1));
        }
    }

    static void cuts() {
        says("26: How many CUTS THE WORD has: once more, it tells the same again");
        changesNothing("cuts", Edges::song, WordRows::cuts);
        changesNothing("cuts, without places", Edges::unplacedSong, WordRows::cuts);
        changesNothing("cuts of no word", Edges::nothing, WordRows::cuts);
    }

    static void cut() {
        says("27: How many letters are ahead of CUT i of the latest cuts()");
        int all = after(Edges::song).cuts();
        for (int k = 0; k < all; k++) {
            int i = k;
            onlyTells("cut " + k, rows -> rows.cut(i));
        }
    }

    static void told() {
        says("28: NOTES to whether PLACES are told");
        for (int w = 0; w < 8; w++) {
            int what = w;
            onlyTells("told " + w, rows -> rows.told(what));
        }
    }
}
