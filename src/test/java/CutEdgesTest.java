/** The sentences of paragraph 4 and of promises 23 to 27 that name an edge, each by a test of its own. */
public final class CutEdgesTest extends Edges {
    private static final int END = 27;

    public static void main(String[] args) {
        runAll(CutEdgesTest.class);
    }

    private static long signs(int... each) {
        long all = 0;
        for (int j = each.length - 1; j >= 0; j--) {
            all = all << 5 | each[j];
        }
        return all;
    }

    /** So many signs, all of them the letter 1, but for this one. */
    private static long onesBut(int length, int at, int sign) {
        int[] each = new int[length];
        for (int j = 0; j < length; j++) {
            each[j] = j == at ? sign : 1;
        }
        return signs(each);
    }

    private static long ones(int length) {
        return onesBut(length, -1, 0);
    }

    private static void takesSigns(String what, long signs) {
        taken(what, Edges::song, rows -> rows.pattern(signs, 0), 2);
    }

    private static void refusesSigns(String what, long signs) {
        refused(what, Edges::song, rows -> rows.pattern(signs, 0), OUTSIDE);
    }

    /** A word of so many letters 1, cut wherever a value is odd. */
    private static Past word(int letters) {
        return rows -> {
            for (int i = 0; i < letters; i++) {
                rows.letter(1);
            }
            rows.sides(0, 1);
            rows.sides(1, 1);
        };
    }

    private static void cutsAre(String what, Past past, int... want) {
        WordRows rows = after(past);
        due(what + ": how many", rows.cuts(), want.length);
        for (int i = 0; i < want.length; i++) {
            due(what + ": cut(" + i + ")", rows.cut(i), want[i]);
        }
        refusedIndex(what + ": one more", both(past, WordRows::cuts), r -> r.cut(want.length));
    }

    // ---- promise 23, pattern

    static void signsBelowOne() {
        says("23: OUTSIDE: signs (below 1)");
        for (long signs : new long[] {Long.MIN_VALUE, Long.MIN_VALUE + 1, LOW, -2, -1, 0}) {
            refusesSigns("signs " + signs, signs);
        }
        takesSigns("signs 1", 1);
    }

    static void signsAreLettersOrEnds() {
        says("23: OUTSIDE: signs (28 to 31 among them); 4: signs (1 to 26 letters)");
        for (int length = 1; length <= 6; length++) {
            for (int at = 0; at < length; at++) {
                for (int sign = 28; sign <= 31; sign++) {
                    refusesSigns(sign + " at " + at + " of " + length, onesBut(length, at, sign));
                }
                for (int sign : new int[] {1, 2, 25, 26}) {
                    takesSigns(sign + " at " + at + " of " + length, onesBut(length, at, sign));
                }
            }
        }
    }

    static void signsAreSixAtMost() {
        says("23: OUTSIDE: signs (more than six); 4: 1 to 6 signs");
        for (int length = 1; length <= 6; length++) {
            takesSigns(length + " signs", ones(length));
        }
        for (int length = 7; length <= 12; length++) {
            refusesSigns(length + " signs", ones(length));
        }
        takesSigns("the greatest six", signs(26, 26, 26, 26, 26, END));
        refusesSigns("six and an end", signs(1, 1, 1, 1, 1, 1, END));
    }

    static void endInTheMidst() {
        says("23: OUTSIDE: signs (a 27 in the midst); 4: 27 an end of a word: as the first one or the last one");
        for (int length = 2; length <= 6; length++) {
            takesSigns("first of " + length, onesBut(length, 0, END));
            takesSigns("last of " + length, onesBut(length, length - 1, END));
            for (int at = 1; at < length - 1; at++) {
                refusesSigns("at " + at + " of " + length, onesBut(length, at, END));
            }
        }
        takesSigns("both", signs(END, 1, END));
        refusesSigns("first, and in the midst", signs(END, END, 1));
        refusesSigns("last, and in the midst", signs(1, END, END));
    }

    static void oneIsALetter() {
        says("23: OUTSIDE: signs (no letter); 4: one at least is a letter");
        refusesSigns("an end", signs(END));
        refusesSigns("two ends", signs(END, END));
        takesSigns("an end and a letter", signs(END, 1));
        takesSigns("a letter and an end", signs(26, END));
    }

    static void nothingBehindTheFirstZero() {
        says("23: OUTSIDE: signs (anything behind the first 0)");
        for (int length = 1; length <= 6; length++) {
            for (int bit = 5 * length + 5; bit < 64; bit++) {
                refusesSigns("bit " + bit + " behind " + length + " signs", ones(length) | 1L << bit);
            }
        }
        refusesSigns("the first sign is a 0", signs(0, 1));
        refusesSigns("two zeros between", signs(1, 0, 0, 1));
    }

    static void valuesBelowZero() {
        says("23: OUTSIDE: values (below 0)");
        for (int length = 1; length <= 6; length++) {
            for (int values : new int[] {LOW, -1000000000, -10, -9, -1}) {
                long signs = ones(length);
                refused(values + " for " + length, Edges::song, rows -> rows.pattern(signs, values), OUTSIDE);
            }
            long signs = ones(length);
            taken("0 for " + length, Edges::song, rows -> rows.pattern(signs, 0), 2);
        }
    }

    static void valuesAreOneMoreThanSigns() {
        says("23: OUTSIDE: values (more digits than signs and one); 4: a value ahead of each sign and behind the last");
        int least = 10;
        for (int length = 1; length <= 6; length++) {
            least *= 10;
            long signs = ones(length);
            for (int values : new int[] {least, least + 1, 10 * least, HIGH}) {
                refused(values + " for " + length, Edges::song, rows -> rows.pattern(signs, values), OUTSIDE);
            }
            int most = least - 1;
            taken(most + " for " + length, Edges::song, rows -> rows.pattern(signs, most), 2);
        }
    }

    static void patternRoom() {
        says("23: A PATTERN: its number. ROOM; 4: PATTERNS 0 to 29");
        Past some = rows -> {
            for (int i = 0; i < 29; i++) {
                rows.pattern(2, 1);
            }
            word(6).goes(rows);
            rows.place();
        };
        taken("the thirtieth", some, rows -> rows.pattern(1, 1), 29);
        cutsAre("the thirtieth counts", both(some, r -> r.pattern(1, 1)), 1, 2, 3, 4, 5);
        Past full = both(some, r -> r.pattern(2, 1));
        refused("the thirty-first", full, rows -> rows.pattern(1, 1), ROOM);
        refused("the thirty-first in a song", both(Edges::song, r -> {
            for (int i = 2; i < 30; i++) {
                r.pattern(2, 1);
            }
        }), rows -> rows.pattern(1, 1), ROOM);
        cutsAre("the thirty-first does not count", both(full, r -> r.pattern(1, 1)));
        taken("the first after clear()", both(full, WordRows::clear), rows -> rows.pattern(1, 1), 0);
    }

    // ---- promise 24, letter

    static void letterBounds() {
        says("24: A letter (1 to 26) comes behind THE WORD. OUTSIDE");
        for (int c : new int[] {LOW, -27, -1, 27, 28, HIGH}) {
            refused("letter " + c, Edges::song, rows -> rows.letter(c), OUTSIDE);
            refused("letter " + c + " of no word", Edges::nothing, rows -> rows.letter(c), OUTSIDE);
        }
        for (int c : new int[] {1, 2, 25, 26}) {
            taken("letter " + c, Edges::song, rows -> rows.letter(c), 10);
            cutsAre("a word of " + c, rows -> {
                rows.letter(c);
                rows.letter(c);
                rows.sides(0, 1);
                rows.sides(1, 1);
                rows.pattern(signs(c, c), 10);
            }, 1);
        }
    }

    static void wordIsEmpty() {
        says("24: 0: it is empty: how many it has");
        for (int n : new int[] {0, 1, 23, 24}) {
            WordRows rows = after(word(n));
            due("letters told", rows.told(5), n);
            due("emptied of " + n, rows.letter(0), 0);
            due("none told", rows.told(5), 0);
            due("again", rows.letter(0), 0);
            due("the first", rows.letter(1), 1);
        }
        Past other = both(word(24), rows -> {
            rows.letter(0);
            rows.letter(2);
            rows.letter(2);
            rows.pattern(signs(1), 1);
            rows.pattern(signs(1), 10);
        });
        cutsAre("no old letter is left", other);
    }

    static void letterRoom() {
        says("24: how many it has. ROOM; 4: THE WORD has 24 letters at most");
        taken("the first", word(0), rows -> rows.letter(1), 1);
        taken("the twenty-fourth", word(23), rows -> rows.letter(26), 24);
        Past full = both(word(24), rows -> {
            rows.pattern(signs(1), 1);
            rows.cuts();
            rows.place();
        });
        Past song = both(Edges::song, rows -> {
            for (int i = 9; i < 24; i++) {
                rows.letter(1);
            }
        });
        for (int c : new int[] {1, 26}) {
            refused("the twenty-fifth, " + c, full, rows -> rows.letter(c), ROOM);
            refused("the twenty-fifth in a song, " + c, song, rows -> rows.letter(c), ROOM);
        }
        taken("0 is no letter more", full, rows -> rows.letter(0), 0);
    }

    // ---- promise 25, sides

    static void sidesWhat() {
        says("25: SIDES (what = 0, 1). OUTSIDE");
        for (int what : new int[] {LOW, -1, 2, HIGH}) {
            refused("what " + what, Edges::song, rows -> rows.sides(what, 4), OUTSIDE);
        }
        taken("what 0", Edges::song, rows -> rows.sides(0, 4), 1);
        taken("what 1", Edges::song, rows -> rows.sides(1, 4), 2);
    }

    static void sidesBounds() {
        says("25: SIDES become n (1 to 24): what they were. OUTSIDE");
        for (int what = 0; what < 2; what++) {
            int side = what;
            for (int n : new int[] {LOW, -1, 0, 25, 26, HIGH}) {
                refused("side " + what + " of " + n, Edges::song, rows -> rows.sides(side, n), OUTSIDE);
            }
            WordRows rows = new WordRows();
            due("at first", rows.sides(what, 1), what == 0 ? 2 : 3);
            due("the least", rows.sides(what, 24), 1);
            due("the greatest", rows.sides(what, 23), 24);
            due("as it was", rows.sides(what, 23), 23);
            due("the other one is its own", rows.sides(1 - what, 5), what == 0 ? 3 : 2);
        }
    }

    // ---- promise 26, cuts

    private static Past sided(int letters, int ahead, int behind) {
        return both(word(letters), rows -> {
            rows.sides(0, ahead);
            rows.sides(1, behind);
            rows.pattern(signs(1), 11);
        });
    }

    static void sidesLieAheadAndBehind() {
        says("4: SIDES 0 letters or more lie ahead and SIDES 1 or more behind");
        cutsAre("1 and 1 of 2", sided(2, 1, 1), 1);
        cutsAre("1 and 1 of 1", sided(1, 1, 1));
        cutsAre("2 and 3 of 4", sided(4, 2, 3));
        cutsAre("2 and 3 of 5", sided(5, 2, 3), 2);
        cutsAre("2 and 3 of 6", sided(6, 2, 3), 2, 3);
        cutsAre("1 and 23 of 24", sided(24, 1, 23), 1);
        cutsAre("23 and 1 of 24", sided(24, 23, 1), 23);
        cutsAre("1 and 24 of 24", sided(24, 1, 24));
        cutsAre("24 and 1 of 24", sided(24, 24, 1));
        cutsAre("24 and 24 of 24", sided(24, 24, 24));
        cutsAre("12 and 12 of 24", sided(24, 12, 12), 12);
        cutsAre("12 and 13 of 24", sided(24, 12, 13));
    }

    static void sidesAtFirst() {
        says("4: SIDES 0 (2 at first), SIDES 1 (3 at first)");
        for (int letters = 4; letters <= 6; letters++) {
            int n = letters;
            Past past = rows -> {
                for (int i = 0; i < n; i++) {
                    rows.letter(1);
                }
                rows.pattern(signs(1), 11);
            };
            if (n == 4) {
                cutsAre("4 letters", past);
            } else if (n == 5) {
                cutsAre("5 letters", past, 2);
            } else {
                cutsAre("6 letters", past, 2, 3);
            }
        }
    }

    static void cutsOfNoWord() {
        says("26: How many CUTS THE WORD has: an empty one, one of one letter, one without PATTERNS");
        cutsAre("no word", sided(0, 1, 1));
        cutsAre("one letter", sided(1, 1, 1));
        cutsAre("no patterns", word(24));
        cutsAre("a pattern that stands nowhere", both(word(24), r -> r.pattern(signs(2), 11)));
    }

    static void cutWhereItIsOdd() {
        says("4: a value (0 to 9); THE WORD may be CUT where that is odd");
        for (int value = 0; value <= 9; value++) {
            int v = value;
            Past past = both(word(2), rows -> rows.pattern(signs(1, 1), 10 * v));
            if (value % 2 == 1) {
                cutsAre("value " + value, past, 1);
            } else {
                cutsAre("value " + value, past);
            }
        }
    }

    static void theGreatestHolds() {
        says("4: of several the greatest holds (0 without)");
        for (int one = 0; one <= 9; one++) {
            for (int other = 0; other <= 9; other++) {
                int a = one;
                int b = other;
                Past past = both(word(2), rows -> {
                    rows.pattern(signs(1, 1), 10 * a);
                    rows.pattern(signs(END, 1), 100 * b);
                });
                taken(a + " and " + b, past, WordRows::cuts, Math.max(a, b) % 2);
            }
        }
    }

    static void patternStandsAtEachPlace() {
        says("4: A PATTERN stands at each place of THE WORD (with a 27 ahead of it and behind it)");
        cutsAre("each place", both(word(24), r -> r.pattern(signs(1, 1), 10)),
                1, 2, 3, 4, 5, 6, 7, 8, 9, 10, 11, 12, 13, 14, 15, 16, 17, 18, 19, 20, 21, 22, 23);
        cutsAre("six signs, at the end", both(word(24), r -> r.pattern(signs(1, 1, 1, 1, 1, END), 10000)), 23);
        cutsAre("six signs, at the beginning", both(word(24), r -> r.pattern(signs(END, 1, 1, 1, 1, 1), 100)), 1);
        cutsAre("the whole word", both(word(4), r -> r.pattern(signs(END, 1, 1, 1, 1, END), 1000)), 2);
        cutsAre("longer than the word", both(word(3), r -> r.pattern(signs(END, 1, 1, 1, 1, END), 1111111)));
        cutsAre("shorter than the word", both(word(5), r -> r.pattern(signs(END, 1, 1, 1, 1, END), 1111111)));
        cutsAre("six letters of five", both(word(5), r -> r.pattern(ones(6), 1111111)));
        cutsAre("six letters of six", both(word(6), r -> r.pattern(ones(6), 1010101)), 2, 4);
    }

    static void valuesGoToTheirPlaces() {
        says("4: each of its values goes to its place between letters; values: the lowest first (ahead of the first"
                + " sign)");
        int digit = 1;
        for (int j = 0; j <= 6; j++) {
            int values = digit;
            Past past = both(word(6), rows -> rows.pattern(ones(6), values));
            if (j == 0 || j == 6) {
                cutsAre("value " + j, past);
            } else {
                cutsAre("value " + j, past, j);
            }
            digit *= 10;
        }
    }

    // ---- promise 27, cut

    static void cutIsNotThere() {
        says("27: ArrayIndexOutOfBounds: there is no such one");
        Past three = both(sided(4, 1, 1), WordRows::cuts);
        for (int i = 0; i < 3; i++) {
            int asked = i;
            taken("cut " + i + " of three", three, rows -> rows.cut(asked), i + 1);
        }
        for (int i : new int[] {LOW, -2, -1, 3, 4, 24, HIGH}) {
            refusedIndex("cut " + i + " of three", three, rows -> rows.cut(i));
        }
        Past most = both(sided(24, 1, 1), WordRows::cuts);
        taken("the last of twenty-three", most, rows -> rows.cut(22), 23);
        refusedIndex("one more", most, rows -> rows.cut(23));
        int found = after(Edges::song).cuts();
        taken("the last in a song", Edges::song, rows -> rows.cut(found - 1), 6);
        refusedIndex("one more in a song", Edges::song, rows -> rows.cut(found));
        refusedIndex("one more in a song without places", Edges::unplacedSong, rows -> rows.cut(found));
        Past none = both(sided(4, 4, 4), WordRows::cuts);
        for (int i : new int[] {LOW, -1, 0, 1, HIGH}) {
            refusedIndex("cut " + i + " of none", none, rows -> rows.cut(i));
        }
    }

    static void cutAheadOfAll() {
        says("27: ArrayIndexOutOfBounds: there is no such one (also ahead of all)");
        for (int i : new int[] {LOW, -1, 0, 1, HIGH}) {
            refusedIndex("cut " + i + " ahead of cuts()", sided(4, 1, 1), rows -> rows.cut(i));
            refusedIndex("cut " + i + " of a new object", Edges::nothing, rows -> rows.cut(i));
        }
        Past cleared = both(sided(4, 1, 1), rows -> {
            rows.cuts();
            rows.clear();
        });
        refusedIndex("after clear()", cleared, rows -> rows.cut(0));
    }

    static void cutOfTheLatest() {
        says("27: How many letters are ahead of CUT i of the latest cuts()");
        WordRows rows = after(both(sided(4, 1, 1), WordRows::cuts));
        rows.sides(0, 3);
        due("sides have changed", rows.cut(0), 1);
        rows.letter(1);
        due("a letter more", rows.cut(2), 3);
        rows.pattern(signs(1, 1), 80);
        due("a pattern more", rows.cut(1), 2);
        rows.letter(0);
        due("no word", rows.cut(2), 3);
        due("cuts again", rows.cuts(), 0);
        refusedIndex("none now", both(sided(4, 1, 1), r -> {
            r.cuts();
            r.letter(0);
            r.cuts();
        }), r -> r.cut(0));
    }
}
