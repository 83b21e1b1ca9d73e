import java.util.ArrayList;
import java.util.Arrays;
import java.util.List;

/**
 * The document once more, in the plainest way and with nothing kept that can be told anew: ModelTest holds WordRows
 * against it. Each note is placed by trying one x after the other until none of the rules is broken.
 */
final class PlainRows {
    private static final int UNKNOWN = -1000001, OUTSIDE = -1000002, STATE = -1000003, ROOM = -1000004, NONE = -1000009;

    private record Syllable(int width, int vowel, boolean goesOn) {
    }

    private record Span(int from, int n) {
        boolean has(int note) {
            return note >= from && note < from + n;
        }
    }

    private record Fault(int which, int verse, int note) {
    }

    private record Pattern(List<Integer> signs, List<Integer> values) {
    }

    private static final class Note {
        int width, length, chord, x, pushed;
        boolean rest;
        final List<List<Syllable>> syllables = new ArrayList<>();
        final int[] begin = new int[4];
    }

    private List<Note> notes;
    private List<Span> melismas, refrains;
    private int[] ways;
    private boolean[] translations;
    private int limit;
    private boolean placed;
    private List<Pattern> patterns;
    private List<Integer> word;
    private int[] sides;
    private List<Integer> latestCuts;

    PlainRows() {
        begin();
    }

    private void begin() {
        notes = new ArrayList<>();
        melismas = new ArrayList<>();
        refrains = new ArrayList<>();
        ways = new int[4];
        translations = new boolean[4];
        limit = 2000;
        placed = false;
        patterns = new ArrayList<>();
        word = new ArrayList<>();
        sides = new int[] {2, 3};
        latestCuts = new ArrayList<>();
    }

    int note(int width, int length, boolean rest) {
        if (!(10 <= width && width <= 200 && 1 <= length && length <= 64)) return OUTSIDE;
        if (notes.size() == 60) return ROOM;
        Note note = new Note();
        note.width = width;
        note.length = length;
        note.rest = rest;
        for (int v = 0; v < 4; v++) note.syllables.add(new ArrayList<>());
        notes.add(note);
        placed = false;
        return notes.size() - 1;
    }

    int syllable(int note, int verse, int w, int vowel, boolean goesOn) {
        if (noNote(note) || noVerse(verse)) return UNKNOWN;
        if (!(1 <= w && w <= 200 && 0 <= vowel && vowel <= w)) return OUTSIDE;
        if (notes.get(note).rest) return STATE;
        if (spanOf(melismas, note) != null && spanOf(melismas, note).from != note) return STATE;
        if (verse > 0 && spanOf(refrains, note) != null) return STATE;
        List<Syllable> there = notes.get(note).syllables.get(verse);
        if (there.size() == 2) return ROOM;
        there.add(new Syllable(w, vowel, goesOn));
        placed = false;
        return there.size();
    }

    int wipe(int note, int verse) {
        if (noNote(note) || noVerse(verse)) return UNKNOWN;
        int had = notes.get(note).syllables.get(verse).size();
        notes.get(note).syllables.get(verse).clear();
        placed = false;
        return had;
    }

    int chord(int note, int w) {
        if (noNote(note)) return UNKNOWN;
        if (!(0 <= w && w <= 200)) return OUTSIDE;
        int had = notes.get(note).chord;
        notes.get(note).chord = w;
        placed = false;
        return had;
    }

    int melisma(int from, int n) {
        if (noNote(from)) return UNKNOWN;
        if (!(2 <= n && n <= 20 && (long) from + n <= notes.size())) return OUTSIDE;
        for (int i = from; i < from + n; i++) {
            if (notes.get(i).rest || spanOf(melismas, i) != null) return STATE;
            for (int v = 0; v < 4; v++) if (i != from && hasBox(i, v)) return STATE;
        }
        melismas.add(new Span(from, n));
        placed = false;
        return melismas.size();
    }

    int refrain(int from, int n) {
        if (noNote(from)) return UNKNOWN;
        if (!(1 <= n && n <= 60 && (long) from + n <= notes.size())) return OUTSIDE;
        for (int i = from; i < from + n; i++) {
            if (spanOf(refrains, i) != null || hasBox(i, 1) || hasBox(i, 2) || hasBox(i, 3)) return STATE;
        }
        if (refrains.size() == 3) return ROOM;
        refrains.add(new Span(from, n));
        placed = false;
        return refrains.size();
    }

    int align(int verse, int way) {
        if (noVerse(verse)) return UNKNOWN;
        if (way != 0 && way != 1 && way != 2) return OUTSIDE;
        int was = ways[verse];
        ways[verse] = way;
        placed = false;
        return was;
    }

    int translation(int verse, boolean on) {
        if (noVerse(verse)) return UNKNOWN;
        int was = translations[verse] ? 1 : 0;
        translations[verse] = on;
        placed = false;
        return was;
    }

    int limit(int w) {
        if (!(100 <= w && w <= 30000)) return OUTSIDE;
        int was = limit;
        limit = w;
        placed = false;
        return was;
    }

    int place() {
        for (int i = 0; i < notes.size(); i++) {
            Note note = notes.get(i);
            int alone = i == 0 ? 0 : afterNote(i - 1);
            int x = 0;
            while (!mayStand(i, x)) x++;
            note.x = x;
            note.pushed = x - alone;
            for (int v = 0; v < 4; v++) {
                if (!hasBox(i, v)) continue;
                note.begin[v] = x - offset(i, v);
                if (translations[v]) note.begin[v] = Math.max(Math.max(0, note.begin[v]), leastBegin(i, v));
            }
        }
        placed = true;
        int greatest = notes.isEmpty() ? 0 : notes.get(notes.size() - 1).x + notes.get(notes.size() - 1).width;
        for (int i = 0; i < notes.size(); i++) {
            if (notes.get(i).chord > 0) greatest = Math.max(greatest, notes.get(i).x + notes.get(i).chord);
            for (int v = 0; v < 4; v++) if (hasBox(i, v)) greatest = Math.max(greatest, end(i, v));
        }
        return greatest > limit ? greatest - limit : 0;
    }

    private int afterNote(int i) {
        return notes.get(i).x + notes.get(i).width + 10 * notes.get(i).length;
    }

    private boolean mayStand(int i, int x) {
        if (i > 0 && x < afterNote(i - 1)) return false;
        for (int v = 0; v < 4; v++) {
            if (!hasBox(i, v) || translations[v]) continue;
            if (x < offset(i, v)) return false;
            if (boxBefore(i, v) >= 0 && x - offset(i, v) < leastBegin(i, v)) return false;
        }
        if (notes.get(i).chord > 0) {
            for (int j = i - 1; j >= 0; j--) {
                if (notes.get(j).chord == 0) continue;
                return x >= notes.get(j).x + notes.get(j).chord + 10;
            }
        }
        return true;
    }

    private int boxBefore(int i, int v) {
        int j = i - 1;
        while (j >= 0 && !hasBox(j, v)) j--;
        return j;
    }

    private int boxBehind(int i, int v) {
        int j = i + 1;
        while (j < notes.size() && !hasBox(j, v)) j++;
        return j < notes.size() ? j : -1;
    }

    private int leastBegin(int i, int v) {
        int before = boxBefore(i, v);
        return before < 0 ? 0 : end(before, v) + (goesOn(before, v) ? 4 : 12);
    }

    private int boxWidth(int i, int v) {
        List<Syllable> there = notes.get(i).syllables.get(v);
        int sum = there.size() == 2 ? 5 : 0;
        for (Syllable one : there) sum += one.width;
        return sum;
    }

    private boolean goesOn(int i, int v) {
        List<Syllable> there = notes.get(i).syllables.get(v);
        return there.get(there.size() - 1).goesOn;
    }

    private int offset(int i, int v) {
        if (ways[v] == 0) return boxWidth(i, v) / 2;
        return ways[v] == 1 ? 0 : notes.get(i).syllables.get(v).get(0).vowel;
    }

    private int end(int i, int v) {
        return notes.get(i).begin[v] + boxWidth(i, v);
    }

    int x(int note, int what) {
        if (noNote(note)) return UNKNOWN;
        if (what != 0 && what != 1) return OUTSIDE;
        if (!placed) return STATE;
        return what == 0 ? notes.get(note).x : notes.get(note).pushed;
    }

    int box(int note, int verse, int what) {
        if (noNote(note) || noVerse(verse) || !hasBox(note, verse)) return UNKNOWN;
        if (what < 0 || what > 4) return OUTSIDE;
        if (!placed) return STATE;
        Note at = notes.get(note);
        if (what == 0) return at.begin[verse];
        if (what == 1) return boxWidth(note, verse);
        if (what == 2) return at.syllables.get(verse).size() - 1;
        if (what == 3) return end(note, verse);
        return at.begin[verse] <= at.x && at.x <= end(note, verse) ? 1 : 0;
    }

    private List<Integer> hyphenPlaces(int note, int verse) {
        List<Integer> places = new ArrayList<>();
        int next = boxBehind(note, verse);
        if (!goesOn(note, verse) || next < 0) return places;
        int room = notes.get(next).begin[verse] - end(note, verse);
        if (room < 10) return places;
        int n = 1 + (room - 10) / 80;
        for (int k = 0; k < n; k++) places.add(end(note, verse) + (2 * k + 1) * room / (2 * n) - 3);
        return places;
    }

    int hyphens(int note, int verse) {
        if (noNote(note) || noVerse(verse) || !hasBox(note, verse)) return UNKNOWN;
        if (!placed) return STATE;
        return hyphenPlaces(note, verse).size();
    }

    int hyphen(int note, int verse, int k) {
        if (noNote(note) || noVerse(verse) || !hasBox(note, verse)) return UNKNOWN;
        if (!placed) return STATE;
        List<Integer> places = hyphenPlaces(note, verse);
        if (k < 0 || k >= places.size()) throw new ArrayIndexOutOfBoundsException("hyphen");
        return places.get(k);
    }

    int line(int note, int verse, int what) {
        if (noNote(note) || noVerse(verse) || !hasBox(note, verse)) return UNKNOWN;
        if (what != 0 && what != 1) return OUTSIDE;
        if (!placed) return STATE;
        Span melisma = spanOf(melismas, note);
        if (melisma == null || melisma.from != note || goesOn(note, verse)) return NONE;
        Note last = notes.get(melisma.from + melisma.n - 1);
        int begin = end(note, verse) + 2;
        int end = last.x + last.width;
        int next = boxBehind(note, verse);
        if (next >= 0 && notes.get(next).begin[verse] - 4 < end) end = notes.get(next).begin[verse] - 4;
        if (end - begin < 10) return NONE;
        return what == 0 ? begin : end;
    }

    int strain() {
        if (!placed) return STATE;
        if (notes.isEmpty() || notes.get(notes.size() - 1).x == 0) throw new ArithmeticException("strain");
        long sum = 0;
        for (Note note : notes) sum += note.pushed;
        return (int) (1000L * sum / notes.get(notes.size() - 1).x);
    }

    private List<Fault> allFaults() {
        List<Fault> all = new ArrayList<>();
        for (int v = 0; v < 4; v++) {
            for (int i = 0; i < notes.size(); i++) {
                if (lacksBox(i, v)) all.add(new Fault(1, v, i));
                if (hasBox(i, v) && goesOn(i, v) && boxBehind(i, v) < 0) all.add(new Fault(2, v, i));
            }
        }
        return all;
    }

    private boolean lacksBox(int i, int v) {
        if (hasBox(i, v) || !hasBoxes(v) || translations[v] || notes.get(i).rest) return false;
        Span melisma = spanOf(melismas, i);
        if (melisma != null && melisma.from < i) return false;
        return v == 0 || spanOf(refrains, i) == null;
    }

    int faults() {
        return allFaults().size();
    }

    int fault(int i, int what) {
        List<Fault> all = allFaults();
        if (i < 0 || i >= all.size()) return UNKNOWN;
        if (what < 0 || what > 2) return OUTSIDE;
        Fault one = all.get(i);
        return what == 0 ? one.which : what == 1 ? one.verse : one.note;
    }

    private boolean alike(int a, int b) {
        if (!hasBoxes(a) || !hasBoxes(b) || ways[a] != ways[b] || translations[a] != translations[b]) return false;
        for (int i = 0; i < notes.size(); i++) {
            if (spanOf(refrains, i) != null) continue;
            if (!notes.get(i).syllables.get(a).equals(notes.get(i).syllables.get(b))) return false;
        }
        return true;
    }

    int shares(int verse) {
        if (noVerse(verse)) return UNKNOWN;
        for (int v = 0; v < verse; v++) if (alike(v, verse)) return v;
        return NONE;
    }

    int row(int verse) {
        if (noVerse(verse)) return UNKNOWN;
        int[] rows = new int[4];
        int next = 0;
        for (int v = 0; v < 4; v++) {
            if (!hasBoxes(v)) rows[v] = NONE;
            else if (shares(v) == NONE) rows[v] = next++;
            else rows[v] = rows[shares(v)];
        }
        return rows[verse];
    }

    int in(int note, int what) {
        if (noNote(note)) return UNKNOWN;
        if (what != 0 && what != 1) return OUTSIDE;
        Span span = spanOf(what == 0 ? melismas : refrains, note);
        return span == null ? NONE : span.from;
    }

    int pattern(long signs, int values) {
        if (signs < 1 || values < 0) return OUTSIDE;
        List<Integer> each = new ArrayList<>();
        for (long rest = signs; rest != 0; rest /= 32) each.add((int) (rest % 32));
        boolean letter = false;
        for (int j = 0; j < each.size(); j++) {
            int sign = each.get(j);
            if (sign == 0 || sign > 27) return OUTSIDE;
            if (sign == 27 && j != 0 && j != each.size() - 1) return OUTSIDE;
            letter |= sign < 27;
        }
        if (!letter || each.size() > 6) return OUTSIDE;
        String digits = new StringBuilder(String.valueOf(values)).reverse().toString();
        if (digits.length() > each.size() + 1) return OUTSIDE;
        if (patterns.size() == 30) return ROOM;
        List<Integer> numbers = new ArrayList<>();
        for (char digit : digits.toCharArray()) numbers.add(digit - '0');
        patterns.add(new Pattern(each, numbers));
        return patterns.size() - 1;
    }

    int letter(int c) {
        if (c < 0 || c > 26) return OUTSIDE;
        if (c == 0) {
            word.clear();
        } else if (word.size() == 24) {
            return ROOM;
        } else {
            word.add(c);
        }
        return word.size();
    }

    int sides(int what, int n) {
        if (what < 0 || what > 1 || n < 1 || n > 24) return OUTSIDE;
        int was = sides[what];
        sides[what] = n;
        return was;
    }

    private int valueAt(int ahead) {
        List<Integer> framed = new ArrayList<>(List.of(27));
        framed.addAll(word);
        framed.add(27);
        int greatest = 0;
        for (Pattern one : patterns) {
            for (int j = 0; j < one.values.size(); j++) {
                int start = ahead + 1 - j;
                int stop = start + one.signs.size();
                if (start < 0 || stop > framed.size()) continue;
                if (framed.subList(start, stop).equals(one.signs)) greatest = Math.max(greatest, one.values.get(j));
            }
        }
        return greatest;
    }

    int cuts() {
        latestCuts = new ArrayList<>();
        for (int ahead = 1; ahead < word.size(); ahead++) {
            boolean wide = ahead >= sides[0] && word.size() - ahead >= sides[1];
            if (wide && valueAt(ahead) % 2 == 1) latestCuts.add(ahead);
        }
        return latestCuts.size();
    }

    int cut(int i) {
        if (i < 0 || i >= latestCuts.size()) throw new ArrayIndexOutOfBoundsException("cut");
        return latestCuts.get(i);
    }

    int told(int what) {
        if (what < 0 || what > 7) return OUTSIDE;
        int syllables = 0;
        int chords = 0;
        for (Note note : notes) {
            for (List<Syllable> there : note.syllables) syllables += there.size();
            if (note.chord > 0) chords++;
        }
        return Arrays.asList(notes.size(), syllables, melismas.size(), refrains.size(), patterns.size(), word.size(),
                chords, placed ? 1 : 0).get(what);
    }

    int clear() {
        int had = notes.size();
        begin();
        return had;
    }

    private boolean noNote(int note) {
        return note < 0 || note >= notes.size();
    }

    private boolean noVerse(int verse) {
        return verse < 0 || verse > 3;
    }

    private boolean hasBox(int note, int verse) {
        return !notes.get(note).syllables.get(verse).isEmpty();
    }

    private boolean hasBoxes(int verse) {
        for (int i = 0; i < notes.size(); i++) if (hasBox(i, verse)) return true;
        return false;
    }

    private static Span spanOf(List<Span> spans, int note) {
        for (Span span : spans) if (span.has(note)) return span;
        return null;
    }
}
