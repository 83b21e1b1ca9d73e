/** Words under notes: see README.md for how to use it. */
public final class WordRows {
    public static final int UNKNOWN = -1000001, OUTSIDE = -1000002, STATE = -1000003, ROOM = -1000004, NONE = -1000009;

    private static final int MOST_NOTES = 60;
    private static final int VERSES = 4;
    private static final int MOST_REFRAINS = 3;
    private static final int WIDEST = 200;
    private static final int FIRST_LIMIT = 2000;
    private static final int NOWHERE = -1;

    private static final int HALF_BOX = 0, BOX_START = 1, VOWEL_START = 2;

    private static final int ROOM_PER_LENGTH = 10;
    private static final int TIE = 5;
    private static final int GAP_IN_WORD = 4, GAP_BEHIND_WORD = 12, GAP_BEHIND_CHORD = 10;
    private static final int LEAST_HYPHEN_ROOM = 10, ROOM_PER_HYPHEN = 80, HALF_HYPHEN = 3;
    private static final int GAP_AHEAD_OF_LINE = 2, GAP_BEHIND_LINE = 4, SHORTEST_LINE = 10;

    private static final int LETTERS = 26, WORD_END = 27;
    private static final int MOST_LETTERS = 24;
    private static final int MOST_PATTERNS = 30;
    private static final int MOST_SIGNS = 6;
    private static final int SIGN_BITS = 5, SIGN_MASK = 31;

    private final Note[] notes = new Note[MOST_NOTES];
    private final Verse[] verses = new Verse[VERSES];
    private final Cutter cutter = new Cutter();
    // A fault is kept as verse * MOST_NOTES + note: which fault it is follows from whether a box is there.
    private final int[] faultPlaces = new int[VERSES * MOST_NOTES];
    private int noteCount;
    private int melismaCount;
    private int refrainCount;
    private int widthLimit = FIRST_LIMIT;
    private boolean placed;

    public WordRows() {
        for (int i = 0; i < MOST_NOTES; i++) {
            notes[i] = new Note();
        }
        for (int v = 0; v < VERSES; v++) {
            verses[v] = new Verse();
        }
    }

    // ---- 1 notes and syllables

    public int note(int width, int length, boolean rest) {
        if (isOutside(width, 10, WIDEST) || isOutside(length, 1, 64)) {
            return OUTSIDE;
        }
        if (noteCount >= MOST_NOTES) {
            return ROOM;
        }
        notes[noteCount].become(width, length, rest);
        noteCount++;
        placed = false;
        return noteCount - 1;
    }

    public int syllable(int note, int verse, int w, int vowel, boolean goesOn) {
        if (!isNote(note) || !isVerse(verse)) {
            return UNKNOWN;
        }
        if (isOutside(w, 1, WIDEST) || isOutside(vowel, 0, w)) {
            return OUTSIDE;
        }
        if (!maySing(note, verse)) {
            return STATE;
        }
        if (verses[verse].counts[note] >= Verse.MOST_TIED) {
            return ROOM;
        }
        placed = false;
        return verses[verse].addSyllable(note, w, vowel, goesOn);
    }

    public int wipe(int note, int verse) {
        if (!isNote(note) || !isVerse(verse)) {
            return UNKNOWN;
        }
        placed = false;
        return verses[verse].removeSyllables(note);
    }

    public int chord(int note, int w) {
        if (!isNote(note)) {
            return UNKNOWN;
        }
        if (isOutside(w, 0, WIDEST)) {
            return OUTSIDE;
        }
        int before = notes[note].chordWidth;
        notes[note].chordWidth = w;
        placed = false;
        return before;
    }

    public int melisma(int from, int n) {
        if (!isNote(from)) {
            return UNKNOWN;
        }
        if (isOutside(n, 2, 20) || n > noteCount - from) {
            return OUTSIDE;
        }
        if (!mayBeMelisma(from, n)) {
            return STATE;
        }
        for (int i = from; i < from + n; i++) {
            notes[i].melismaFirst = from;
            notes[i].melismaLast = from + n - 1;
        }
        melismaCount++;
        placed = false;
        return melismaCount;
    }

    public int refrain(int from, int n) {
        if (!isNote(from)) {
            return UNKNOWN;
        }
        if (isOutside(n, 1, MOST_NOTES) || n > noteCount - from) {
            return OUTSIDE;
        }
        if (!mayBeRefrain(from, n)) {
            return STATE;
        }
        if (refrainCount >= MOST_REFRAINS) {
            return ROOM;
        }
        for (int i = from; i < from + n; i++) {
            notes[i].refrainFirst = from;
        }
        refrainCount++;
        placed = false;
        return refrainCount;
    }

    public int align(int verse, int way) {
        if (!isVerse(verse)) {
            return UNKNOWN;
        }
        if (isOutside(way, HALF_BOX, VOWEL_START)) {
            return OUTSIDE;
        }
        int before = verses[verse].way;
        verses[verse].way = way;
        placed = false;
        return before;
    }

    public int translation(int verse, boolean on) {
        if (!isVerse(verse)) {
            return UNKNOWN;
        }
        int before = asNumber(verses[verse].isTranslation);
        verses[verse].isTranslation = on;
        placed = false;
        return before;
    }

    public int limit(int w) {
        if (isOutside(w, 100, 30000)) {
            return OUTSIDE;
        }
        int before = widthLimit;
        widthLimit = w;
        placed = false;
        return before;
    }

    // ---- 2 places

    public int place() {
        int over = placeNotes() - widthLimit;
        placed = true;
        return Math.max(over, 0);
    }

    public int x(int note, int what) {
        if (!isNote(note)) {
            return UNKNOWN;
        }
        if (isOutside(what, 0, 1)) {
            return OUTSIDE;
        }
        if (!placed) {
            return STATE;
        }
        return what == 0 ? notes[note].x : notes[note].pushed;
    }

    public int box(int note, int verse, int what) {
        if (!isBox(note, verse)) {
            return UNKNOWN;
        }
        if (isOutside(what, 0, 4)) {
            return OUTSIDE;
        }
        if (!placed) {
            return STATE;
        }
        Verse words = verses[verse];
        switch (what) {
            case 0:
                return words.begins[note];
            case 1:
                return words.boxWidth(note);
            case 2:
                return asNumber(words.isTied(note));
            case 3:
                return words.boxEnd(note);
            default:
                return asNumber(!isOutside(notes[note].x, words.begins[note], words.boxEnd(note)));
        }
    }

    public int hyphens(int note, int verse) {
        if (!isBox(note, verse)) {
            return UNKNOWN;
        }
        if (!placed) {
            return STATE;
        }
        return hyphensIn(verses[verse].hyphenRoom(note));
    }

    public int hyphen(int note, int verse, int k) throws ArrayIndexOutOfBoundsException {
        if (!isBox(note, verse)) {
            return UNKNOWN;
        }
        if (!placed) {
            return STATE;
        }
        int room = verses[verse].hyphenRoom(note);
        int n = hyphensIn(room);
        if (n < 1 || isOutside(k, 0, n - 1)) {
            throw new ArrayIndexOutOfBoundsException("there is no such hyphen");
        }
        return verses[verse].boxEnd(note) + (2 * k + 1) * room / (2 * n) - HALF_HYPHEN;
    }

    public int line(int note, int verse, int what) {
        if (!isBox(note, verse)) {
            return UNKNOWN;
        }
        if (isOutside(what, 0, 1)) {
            return OUTSIDE;
        }
        if (!placed) {
            return STATE;
        }
        Verse words = verses[verse];
        if (notes[note].melismaFirst != note || words.isGoingOn(note)) {
            return NONE;
        }
        int begin = words.boxEnd(note) + GAP_AHEAD_OF_LINE;
        int end = lineEnd(note, words);
        if (end - begin < SHORTEST_LINE) {
            return NONE;
        }
        return what == 0 ? begin : end;
    }

    public int strain() throws ArithmeticException {
        if (!placed) {
            return STATE;
        }
        int lastX = noteCount == 0 ? 0 : notes[noteCount - 1].x;
        if (lastX == 0) {
            throw new ArithmeticException("nothing to measure by: no note, or the last one is at 0");
        }
        int pushed = 0;
        for (int i = 0; i < noteCount; i++) {
            pushed += notes[i].pushed;
        }
        return 1000 * pushed / lastX;
    }

    // ---- 3 what is told

    public int faults() {
        return listFaults();
    }

    public int fault(int i, int what) {
        int found = listFaults();
        if (isOutside(i, 0, found - 1)) {
            return UNKNOWN;
        }
        if (isOutside(what, 0, 2)) {
            return OUTSIDE;
        }
        int verse = faultPlaces[i] / MOST_NOTES;
        int note = faultPlaces[i] % MOST_NOTES;
        switch (what) {
            case 0:
                return verses[verse].hasBox(note) ? 2 : 1;
            case 1:
                return verse;
            default:
                return note;
        }
    }

    public int shares(int verse) {
        if (!isVerse(verse)) {
            return UNKNOWN;
        }
        int with = sharedVerse(verse);
        return with == NOWHERE ? NONE : with;
    }

    public int row(int verse) {
        if (!isVerse(verse)) {
            return UNKNOWN;
        }
        if (!verses[verse].hasBoxes()) {
            return NONE;
        }
        int with = sharedVerse(verse);
        int owner = with == NOWHERE ? verse : with;
        int above = 0;
        for (int v = 0; v < owner; v++) {
            if (verses[v].hasBoxes() && sharedVerse(v) == NOWHERE) {
                above++;
            }
        }
        return above;
    }

    public int in(int note, int what) {
        if (!isNote(note)) {
            return UNKNOWN;
        }
        if (isOutside(what, 0, 1)) {
            return OUTSIDE;
        }
        int first = what == 0 ? notes[note].melismaFirst : notes[note].refrainFirst;
        return first == NOWHERE ? NONE : first;
    }

    // ---- 4 cuts

    public int pattern(long signs, int values) {
        int length = Cutter.signCount(signs);
        if (length == 0 || !Cutter.areValuesFor(length, values)) {
            return OUTSIDE;
        }
        if (cutter.patternCount >= MOST_PATTERNS) {
            return ROOM;
        }
        return cutter.addPattern((int) signs, length, values);
    }

    public int letter(int c) {
        if (isOutside(c, 0, LETTERS)) {
            return OUTSIDE;
        }
        if (c == 0) {
            cutter.letterCount = 0;
            return 0;
        }
        if (cutter.letterCount >= MOST_LETTERS) {
            return ROOM;
        }
        return cutter.addLetter(c);
    }

    public int sides(int what, int n) {
        if (isOutside(what, 0, 1) || isOutside(n, 1, MOST_LETTERS)) {
            return OUTSIDE;
        }
        return what == 0 ? cutter.changeAhead(n) : cutter.changeBehind(n);
    }

    public int cuts() {
        return cutter.findCuts();
    }

    public int cut(int i) throws ArrayIndexOutOfBoundsException {
        if (isOutside(i, 0, cutter.cutCount - 1)) {
            throw new ArrayIndexOutOfBoundsException("there is no such cut");
        }
        return cutter.cutPlaces[i];
    }

    public int told(int what) {
        switch (what) {
            case 0:
                return noteCount;
            case 1:
                return syllablesInAll();
            case 2:
                return melismaCount;
            case 3:
                return refrainCount;
            case 4:
                return cutter.patternCount;
            case 5:
                return cutter.letterCount;
            case 6:
                return chordsInAll();
            case 7:
                return asNumber(placed);
            default:
                return OUTSIDE;
        }
    }

    public int clear() {
        int before = noteCount;
        for (int v = 0; v < VERSES; v++) {
            verses[v].empty();
        }
        cutter.empty();
        noteCount = 0;
        melismaCount = 0;
        refrainCount = 0;
        widthLimit = FIRST_LIMIT;
        placed = false;
        return before;
    }

    // ---- what the calls are tested by

    private static boolean isOutside(int number, int least, int most) {
        return number < least || number > most;
    }

    private static int asNumber(boolean is) {
        return is ? 1 : 0;
    }

    private boolean isNote(int note) {
        return note >= 0 && note < noteCount;
    }

    private static boolean isVerse(int verse) {
        return verse >= 0 && verse < VERSES;
    }

    private boolean isBox(int note, int verse) {
        return isNote(note) && isVerse(verse) && verses[verse].hasBox(note);
    }

    /** Whether the rules let this note have words in this verse; a note that lacks them where it may is a fault. */
    private boolean maySing(int note, int verse) {
        Note sung = notes[note];
        return !sung.isRest && !isBehindMelismaFirst(note) && (verse == 0 || sung.refrainFirst == NOWHERE);
    }

    private boolean isBehindMelismaFirst(int note) {
        return notes[note].melismaFirst != NOWHERE && notes[note].melismaFirst != note;
    }

    private boolean mayBeMelisma(int from, int n) {
        for (int i = from; i < from + n; i++) {
            if (notes[i].isRest || notes[i].melismaFirst != NOWHERE) {
                return false;
            }
            if (i > from && hasBoxFrom(0, i)) {
                return false;
            }
        }
        return true;
    }

    private boolean mayBeRefrain(int from, int n) {
        for (int i = from; i < from + n; i++) {
            if (notes[i].refrainFirst != NOWHERE || hasBoxFrom(1, i)) {
                return false;
            }
        }
        return true;
    }

    private boolean hasBoxFrom(int firstVerse, int note) {
        for (int v = firstVerse; v < VERSES; v++) {
            if (verses[v].hasBox(note)) {
                return true;
            }
        }
        return false;
    }

    // ---- placing

    /** Answers the greatest of all ends. */
    private int placeNotes() {
        for (int v = 0; v < VERSES; v++) {
            verses[v].freeFrom = 0;
        }
        int noteFreeFrom = 0;
        int chordFreeFrom = 0;
        int greatest = 0;
        for (int i = 0; i < noteCount; i++) {
            Note note = notes[i];
            note.x = Math.max(noteFreeFrom, leastForBoxes(i));
            if (note.chordWidth > 0) {
                note.x = Math.max(note.x, chordFreeFrom);
                greatest = Math.max(greatest, note.x + note.chordWidth);
                chordFreeFrom = note.x + note.chordWidth + GAP_BEHIND_CHORD;
            }
            note.pushed = note.x - noteFreeFrom;
            noteFreeFrom = note.x + note.width + ROOM_PER_LENGTH * note.length;
            greatest = Math.max(greatest, placeBoxes(i));
        }
        if (noteCount > 0) {
            greatest = Math.max(greatest, notes[noteCount - 1].end());
        }
        return greatest;
    }

    private int leastForBoxes(int note) {
        int least = 0;
        for (int v = 0; v < VERSES; v++) {
            Verse words = verses[v];
            if (words.hasBox(note) && !words.isTranslation) {
                least = Math.max(least, words.freeFrom + words.offset(note));
            }
        }
        return least;
    }

    private int placeBoxes(int note) {
        int greatest = 0;
        for (int v = 0; v < VERSES; v++) {
            if (verses[v].hasBox(note)) {
                greatest = Math.max(greatest, verses[v].placeBox(note, notes[note].x));
            }
        }
        return greatest;
    }

    private static int hyphensIn(int room) {
        return room < LEAST_HYPHEN_ROOM ? 0 : 1 + (room - LEAST_HYPHEN_ROOM) / ROOM_PER_HYPHEN;
    }

    private int lineEnd(int note, Verse words) {
        int end = notes[notes[note].melismaLast].end();
        int next = words.nextBox(note);
        return next == NOWHERE ? end : Math.min(end, words.begins[next] - GAP_BEHIND_LINE);
    }

    // ---- telling

    /** Fills faultPlaces and answers how many of them there are. */
    private int listFaults() {
        int found = 0;
        for (int v = 0; v < VERSES; v++) {
            int last = verses[v].lastBox();
            for (int i = 0; i < noteCount; i++) {
                if (isFault(v, i, last)) {
                    faultPlaces[found] = v * MOST_NOTES + i;
                    found++;
                }
            }
        }
        return found;
    }

    private boolean isFault(int verse, int note, int lastBox) {
        Verse words = verses[verse];
        if (words.hasBox(note)) {
            return note == lastBox && words.isGoingOn(note);
        }
        return lastBox != NOWHERE && !words.isTranslation && maySing(note, verse);
    }

    private int sharedVerse(int verse) {
        for (int v = 0; v < verse; v++) {
            if (areAlike(verses[v], verses[verse])) {
                return v;
            }
        }
        return NOWHERE;
    }

    private boolean areAlike(Verse one, Verse other) {
        if (!one.hasBoxes() || !other.hasBoxes()) {
            return false;
        }
        if (one.way != other.way || one.isTranslation != other.isTranslation) {
            return false;
        }
        for (int i = 0; i < noteCount; i++) {
            if (notes[i].refrainFirst == NOWHERE && !one.hasSameSyllables(other, i)) {
                return false;
            }
        }
        return true;
    }

    private int syllablesInAll() {
        int sum = 0;
        for (int v = 0; v < VERSES; v++) {
            sum += verses[v].syllableCount;
        }
        return sum;
    }

    private int chordsInAll() {
        int sum = 0;
        for (int i = 0; i < noteCount; i++) {
            sum += asNumber(notes[i].chordWidth > 0);
        }
        return sum;
    }

    private static final class Note {
        private int width;
        private int length;
        private boolean isRest;
        private int chordWidth;
        private int melismaFirst;
        private int melismaLast;
        private int refrainFirst;
        private int x;
        private int pushed;

        /** A note's object is used again after clear(), so nothing of its earlier life may stay. */
        private void become(int newWidth, int newLength, boolean rest) {
            width = newWidth;
            length = newLength;
            isRest = rest;
            chordWidth = 0;
            melismaFirst = NOWHERE;
            melismaLast = NOWHERE;
            refrainFirst = NOWHERE;
            x = 0;
            pushed = 0;
        }

        private int end() {
            return x + width;
        }
    }

    /** The boxes of one verse, by notes; syllable k of a note stands at MOST_TIED * note + k. */
    private static final class Verse {
        private static final int MOST_TIED = 2;

        private final int[] counts = new int[MOST_NOTES];
        private final int[] widths = new int[MOST_TIED * MOST_NOTES];
        private final int[] vowels = new int[MOST_TIED * MOST_NOTES];
        private final boolean[] goings = new boolean[MOST_TIED * MOST_NOTES];
        private final int[] begins = new int[MOST_NOTES];
        private int syllableCount;
        private int way = HALF_BOX;
        private boolean isTranslation;
        // While placing: the least at which the next box may begin. From 0 on, so no box begins below 0.
        private int freeFrom;

        private void empty() {
            for (int i = 0; i < MOST_NOTES; i++) {
                counts[i] = 0;
            }
            syllableCount = 0;
            way = HALF_BOX;
            isTranslation = false;
        }

        private int addSyllable(int note, int width, int vowel, boolean goesOn) {
            int at = MOST_TIED * note + counts[note];
            widths[at] = width;
            vowels[at] = vowel;
            goings[at] = goesOn;
            counts[note]++;
            syllableCount++;
            return counts[note];
        }

        private int removeSyllables(int note) {
            int before = counts[note];
            counts[note] = 0;
            syllableCount -= before;
            return before;
        }

        private boolean hasBoxes() {
            return syllableCount > 0;
        }

        private boolean hasBox(int note) {
            return counts[note] > 0;
        }

        private boolean isTied(int note) {
            return counts[note] == MOST_TIED;
        }

        private boolean isGoingOn(int note) {
            int first = MOST_TIED * note;
            return isTied(note) ? goings[first + 1] : goings[first];
        }

        private int boxWidth(int note) {
            int first = MOST_TIED * note;
            return isTied(note) ? widths[first] + TIE + widths[first + 1] : widths[first];
        }

        private int boxEnd(int note) {
            return begins[note] + boxWidth(note);
        }

        private int offset(int note) {
            switch (way) {
                case HALF_BOX:
                    return boxWidth(note) / 2;
                case BOX_START:
                    return 0;
                default:
                    return vowels[MOST_TIED * note];
            }
        }

        /** Answers where the box ends. Only a translation's note may stand too far left for its box. */
        private int placeBox(int note, int x) {
            begins[note] = Math.max(freeFrom, x - offset(note));
            int end = boxEnd(note);
            freeFrom = end + (isGoingOn(note) ? GAP_IN_WORD : GAP_BEHIND_WORD);
            return end;
        }

        private int nextBox(int note) {
            for (int i = note + 1; i < MOST_NOTES; i++) {
                if (hasBox(i)) {
                    return i;
                }
            }
            return NOWHERE;
        }

        private int lastBox() {
            for (int i = MOST_NOTES - 1; i >= 0; i--) {
                if (hasBox(i)) {
                    return i;
                }
            }
            return NOWHERE;
        }

        /** The room for hyphens behind a box; 0 where none may stand. */
        private int hyphenRoom(int note) {
            int next = nextBox(note);
            if (next == NOWHERE || !isGoingOn(note)) {
                return 0;
            }
            return begins[next] - boxEnd(note);
        }

        private boolean hasSameSyllables(Verse other, int note) {
            if (counts[note] != other.counts[note]) {
                return false;
            }
            int first = MOST_TIED * note;
            for (int at = first; at < first + counts[note]; at++) {
                if (widths[at] != other.widths[at] || vowels[at] != other.vowels[at]
                        || goings[at] != other.goings[at]) {
                    return false;
                }
            }
            return true;
        }
    }

    /** The word, the patterns, and where the word may be cut. */
    private static final class Cutter {
        private static final int FIRST_AHEAD = 2, FIRST_BEHIND = 3;

        private final int[] patternSigns = new int[MOST_PATTERNS];
        private final int[] patternLengths = new int[MOST_PATTERNS];
        private final int[] patternValues = new int[MOST_PATTERNS];
        private int patternCount;
        // The letters stand from index 1 on, so that an end of the word fits ahead of them and behind.
        private final int[] framed = new int[MOST_LETTERS + 2];
        private int letterCount;
        // The greatest value ahead of each framed sign, and behind the last.
        private final int[] greatest = new int[MOST_LETTERS + 3];
        private int leastAhead = FIRST_AHEAD;
        private int leastBehind = FIRST_BEHIND;
        private final int[] cutPlaces = new int[MOST_LETTERS];
        private int cutCount;

        private void empty() {
            patternCount = 0;
            letterCount = 0;
            leastAhead = FIRST_AHEAD;
            leastBehind = FIRST_BEHIND;
            cutCount = 0;
        }

        /** How many signs these are, 0 if they are no pattern. */
        private static int signCount(long signs) {
            int count = 0;
            while (count < MOST_SIGNS && signAt(signs, count) != 0) {
                count++;
            }
            boolean hasMore = signs >> (SIGN_BITS * count) != 0;
            return !hasMore && areSigns(signs, count) ? count : 0;
        }

        private static boolean areSigns(long signs, int count) {
            boolean hasLetter = false;
            for (int j = 0; j < count; j++) {
                int sign = signAt(signs, j);
                boolean isInMidst = j > 0 && j < count - 1;
                if (sign > WORD_END || (sign == WORD_END && isInMidst)) {
                    return false;
                }
                hasLetter = hasLetter || sign <= LETTERS;
            }
            return hasLetter;
        }

        private static int signAt(long signs, int j) {
            return (int) (signs >> (SIGN_BITS * j)) & SIGN_MASK;
        }

        private static boolean areValuesFor(int length, int values) {
            int rest = values;
            for (int j = 0; j <= length; j++) {
                rest /= 10;
            }
            return values >= 0 && rest == 0;
        }

        private int addPattern(int signs, int length, int values) {
            patternSigns[patternCount] = signs;
            patternLengths[patternCount] = length;
            patternValues[patternCount] = values;
            patternCount++;
            return patternCount - 1;
        }

        private int addLetter(int c) {
            letterCount++;
            framed[letterCount] = c;
            return letterCount;
        }

        private int changeAhead(int n) {
            int before = leastAhead;
            leastAhead = n;
            return before;
        }

        private int changeBehind(int n) {
            int before = leastBehind;
            leastBehind = n;
            return before;
        }

        private int findCuts() {
            weighPlaces();
            cutCount = 0;
            for (int ahead = leastAhead; ahead <= letterCount - leastBehind; ahead++) {
                if (greatest[ahead + 1] % 2 == 1) {
                    cutPlaces[cutCount] = ahead;
                    cutCount++;
                }
            }
            return cutCount;
        }

        private void weighPlaces() {
            framed[0] = WORD_END;
            framed[letterCount + 1] = WORD_END;
            for (int at = 0; at <= letterCount + 2; at++) {
                greatest[at] = 0;
            }
            for (int p = 0; p < patternCount; p++) {
                for (int at = 0; at + patternLengths[p] <= letterCount + 2; at++) {
                    if (standsAt(p, at)) {
                        raiseValues(p, at);
                    }
                }
            }
        }

        private boolean standsAt(int p, int at) {
            for (int j = 0; j < patternLengths[p]; j++) {
                if (framed[at + j] != signAt(patternSigns[p], j)) {
                    return false;
                }
            }
            return true;
        }

        private void raiseValues(int p, int at) {
            int rest = patternValues[p];
            for (int j = 0; j <= patternLengths[p]; j++) {
                greatest[at + j] = Math.max(greatest[at + j], rest % 10);
                rest /= 10;
            }
        }
    }
}
