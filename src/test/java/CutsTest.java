/** Promises 23 to 27: patterns, the word, and where it may be cut. */
public final class CutsTest {
    private static final int OUTSIDE = -1000002, ROOM = -1000004;
    private static final int LOW = Integer.MIN_VALUE, HIGH = Integer.MAX_VALUE;
    private static final int END = 27;
    private static final Checks checks = new Checks();

    public static void main(String[] args) {
        patternSigns();
        patternValues();
        patternRoom();
        letters();
        sides();
        cutsBySides();
        greatestHolds();
        endsOfTheWord();
        wholeWord();
        overlappingPlaces();
        longestWord();
        latestCuts();
        checks.end();
    }

    private static void due(String call, int got, int want) {
        checks.due(call, got, want);
    }

    private static long signs(int... each) {
        long all = 0;
        for (int j = each.length - 1; j >= 0; j--) {
            all = all << 5 | each[j];
        }
        return all;
    }

    private static WordRows withWord(int... word) {
        WordRows rows = new WordRows();
        for (int c : word) {
            rows.letter(c);
        }
        rows.sides(0, 1);
        rows.sides(1, 1);
        return rows;
    }

    private static void cutsAre(String what, WordRows rows, int... want) {
        due(what + ": how many", rows.cuts(), want.length);
        for (int i = 0; i < want.length; i++) {
            due(what + ": cut " + i, rows.cut(i), want[i]);
        }
        checks.throwsIndex(what + ": one more", () -> rows.cut(want.length));
    }

    private static void patternSigns() {
        WordRows rows = new WordRows();
        due("23: 0", rows.pattern(0, 0), OUTSIDE);
        due("23: -1", rows.pattern(-1, 0), OUTSIDE);
        due("23: lowest", rows.pattern(Long.MIN_VALUE, 0), OUTSIDE);
        due("23: lowest and a letter", rows.pattern(Long.MIN_VALUE + 1, 0), OUTSIDE);
        due("23: highest", rows.pattern(Long.MAX_VALUE, 0), OUTSIDE);
        for (int sign = 28; sign < 32; sign++) {
            due("23: " + sign, rows.pattern(signs(sign), 0), OUTSIDE);
            due("23: " + sign + " behind a letter", rows.pattern(signs(1, sign), 0), OUTSIDE);
            due("23: " + sign + " in the midst", rows.pattern(signs(1, sign, 1), 0), OUTSIDE);
        }
        due("23: seven signs", rows.pattern(signs(1, 1, 1, 1, 1, 1, 1), 0), OUTSIDE);
        due("23: a 0, and more behind it", rows.pattern(signs(1, 0, 1), 0), OUTSIDE);
        due("23: a 0 ahead of all", rows.pattern(signs(0, 1), 0), OUTSIDE);
        due("23: far behind the first 0", rows.pattern(1L | 1L << 62, 0), OUTSIDE);
        due("23: just behind six signs", rows.pattern(signs(1, 1, 1, 1, 1, 1) | 1L << 35, 0), OUTSIDE);
        due("23: in the midst", rows.pattern(signs(1, END, 1), 0), OUTSIDE);
        due("23: in the midst, behind an end", rows.pattern(signs(END, END, 1), 0), OUTSIDE);
        due("23: no letter", rows.pattern(signs(END), 0), OUTSIDE);
        due("23: no letter in two", rows.pattern(signs(END, END), 0), OUTSIDE);
        due("23: nothing came", rows.told(4), 0);
        due("23: one letter", rows.pattern(signs(1), 0), 0);
        due("23: the last letter", rows.pattern(signs(26), 0), 1);
        due("23: six signs", rows.pattern(signs(26, 26, 26, 26, 26, 26), 0), 2);
        due("23: six signs with ends", rows.pattern(signs(END, 1, 2, 3, 4, END), 0), 3);
        due("23: an end first", rows.pattern(signs(END, 1), 0), 4);
        due("23: an end last", rows.pattern(signs(1, END), 0), 5);
        due("23: both", rows.pattern(signs(END, 1, END), 0), 6);
    }

    private static void patternValues() {
        WordRows rows = new WordRows();
        due("23: below 0", rows.pattern(1, -1), OUTSIDE);
        due("23: lowest", rows.pattern(1, LOW), OUTSIDE);
        due("23: -10", rows.pattern(signs(1, 1, 1, 1, 1, 1), -10), OUTSIDE);
        due("23: highest", rows.pattern(signs(1, 1, 1, 1, 1, 1), HIGH), OUTSIDE);
        long six = 0;
        int least = 10;
        for (int n = 1; n <= 6; n++) {
            six = six << 5 | 1;
            least *= 10;
            due("23: too many for " + n, rows.pattern(six, least), OUTSIDE);
            due("23: the most for " + n, rows.pattern(six, least - 1), n - 1);
        }
    }

    private static void patternRoom() {
        WordRows rows = new WordRows();
        for (int i = 0; i < 30; i++) {
            due("23: pattern " + i, rows.pattern(1 + i % 26, 1), i);
        }
        due("23: full", rows.pattern(1, 1), ROOM);
        due("23: OUTSIDE ahead of ROOM", rows.pattern(0, 1), OUTSIDE);
        due("23: OUTSIDE values ahead of ROOM", rows.pattern(1, 100), OUTSIDE);
        due("23: thirty", rows.told(4), 30);
        rows.letter(4);
        rows.letter(4);
        rows.sides(0, 1);
        rows.sides(1, 1);
        cutsAre("26: of the thirtieth", rows, 1);
    }

    private static void letters() {
        WordRows rows = new WordRows();
        due("24: -1", rows.letter(-1), OUTSIDE);
        due("24: 27", rows.letter(27), OUTSIDE);
        due("24: lowest", rows.letter(LOW), OUTSIDE);
        due("24: empty already", rows.letter(0), 0);
        for (int i = 1; i <= 24; i++) {
            due("24: letter " + i, rows.letter(i % 2 == 0 ? 1 : 26), i);
        }
        due("24: full", rows.letter(1), ROOM);
        due("24: OUTSIDE ahead of ROOM", rows.letter(27), OUTSIDE);
        due("24: still full", rows.told(5), 24);
        due("24: emptied", rows.letter(0), 0);
        due("24: from 1 on", rows.letter(1), 1);
    }

    private static void sides() {
        WordRows rows = new WordRows();
        due("25: what -1", rows.sides(-1, 1), OUTSIDE);
        due("25: what 2", rows.sides(2, 1), OUTSIDE);
        due("25: n 0", rows.sides(0, 0), OUTSIDE);
        due("25: n 25", rows.sides(1, 25), OUTSIDE);
        due("25: ahead", rows.sides(0, 24), 2);
        due("25: behind", rows.sides(1, 1), 3);
        due("25: ahead again", rows.sides(0, 1), 24);
        due("25: behind again", rows.sides(1, 24), 1);
    }

    private static void cutsBySides() {
        WordRows rows = withWord(1, 1, 1, 1, 1, 1, 1);
        cutsAre("26: no patterns", rows);
        rows.pattern(signs(1), 1);
        cutsAre("26: everywhere", rows, 1, 2, 3, 4, 5, 6);
        rows.sides(0, 2);
        rows.sides(1, 3);
        cutsAre("26: 2 ahead and 3 behind", rows, 2, 3, 4);
        rows.sides(0, 4);
        cutsAre("26: 4 ahead and 3 behind", rows, 4);
        rows.sides(1, 4);
        cutsAre("26: no room", rows);
        rows.sides(0, 24);
        rows.sides(1, 24);
        cutsAre("26: sides wider than the word", rows);
        WordRows fresh = new WordRows();
        fresh.pattern(signs(1), 1);
        for (int i = 0; i < 6; i++) {
            fresh.letter(1);
        }
        cutsAre("26: at first 2 and 3", fresh, 2, 3);
    }

    private static void greatestHolds() {
        WordRows rows = withWord(1, 2, 3, 4);
        rows.pattern(signs(1), 10);
        rows.pattern(signs(2), 20);
        rows.pattern(signs(3), 30);
        cutsAre("26: odd ones", rows, 1, 3);
        rows.pattern(signs(3, 4), 40);
        cutsAre("26: a greater even one", rows, 1);
        rows.pattern(signs(3, 4), 10);
        cutsAre("26: a lower one later changes nothing", rows, 1);
        rows.pattern(signs(2, 3), 95);
        cutsAre("26: values ahead and in the midst", rows, 1, 2);
        rows.pattern(signs(2, 3, 4), 9000);
        cutsAre("26: the value behind the last letter is no place for a cut", rows, 1, 2);
        rows.pattern(signs(2, 4), 777);
        cutsAre("26: signs that stand nowhere", rows, 1, 2);
    }

    private static void endsOfTheWord() {
        WordRows rows = withWord(1, 1, 1);
        rows.pattern(signs(END, 1), 100);
        cutsAre("26: at its beginning alone", rows, 1);
        rows.pattern(signs(1, END), 1);
        cutsAre("26: at its end alone", rows, 1, 2);
        rows.pattern(signs(END, 1), 11);
        cutsAre("26: ahead of the word is no cut", rows, 1, 2);
        rows.letter(2);
        cutsAre("26: another end", rows, 1);
    }

    private static void wholeWord() {
        WordRows rows = withWord(1, 2);
        rows.pattern(signs(END, 1, 2, END), 100);
        cutsAre("26: the whole word", rows, 1);
        rows.letter(3);
        cutsAre("26: a longer one", rows);
        rows.letter(0);
        cutsAre("26: no word", rows);
        rows.letter(1);
        cutsAre("26: a word of one letter", rows);
    }

    private static void overlappingPlaces() {
        WordRows rows = withWord(1, 1, 1, 1, 1);
        rows.pattern(signs(1, 1, 1), 2010);
        cutsAre("26: it stands at three places", rows, 1, 2);
    }

    private static void longestWord() {
        WordRows rows = new WordRows();
        for (int i = 0; i < 24; i++) {
            rows.letter(1 + i);
        }
        rows.sides(0, 1);
        rows.sides(1, 1);
        rows.pattern(signs(20, 21, 22, 23, 24, END), 9009999);
        cutsAre("26: its last places", rows, 19, 20, 21, 22);
        rows.pattern(signs(19, 20, 21, 22, 23, 24), 9100000);
        cutsAre("26: one more", rows, 19, 20, 21, 22, 23);
        for (int i = 1; i < 20; i++) {
            rows.pattern(signs(i), 10);
        }
        due("27: as many as can be", rows.cuts(), 23);
        for (int i = 0; i < 23; i++) {
            due("27: cut " + i, rows.cut(i), i + 1);
        }
    }

    private static void latestCuts() {
        WordRows rows = withWord(1, 1, 1);
        rows.pattern(signs(1), 1);
        checks.throwsIndex("27: ahead of all cuts()", () -> rows.cut(0));
        due("27: two", rows.cuts(), 2);
        rows.letter(0);
        due("27: of the latest cuts(), not of the word now", rows.cut(1), 2);
        checks.throwsIndex("27: -1", () -> rows.cut(-1));
        checks.throwsIndex("27: 2", () -> rows.cut(2));
        checks.throwsIndex("27: lowest", () -> rows.cut(LOW));
        checks.throwsIndex("27: highest", () -> rows.cut(HIGH));
        due("26: none now", rows.cuts(), 0);
        checks.throwsIndex("27: none now", () -> rows.cut(0));
    }
}
