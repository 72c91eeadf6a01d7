import java.util.ArrayDeque;
import java.util.ArrayList;
import java.util.Deque;
import java.util.HashSet;
import java.util.List;
import java.util.Set;
import java.util.regex.Matcher;
import java.util.regex.Pattern;

/**
 * The document once more, in the plainest words that Java has, with copies instead of rows that are used again.
 * It shares nothing with CensoredThreads, so that a slip in the one shows against the other.
 */
final class Model {
    private static final int NO_SUCH = -1, BAD_VALUE = -2, BAD_TEXT = -3, TOO_MANY = -4, NOT_POSSIBLE = -5, NONE = -6;
    private static final Pattern TEXT = Pattern.compile("[0-4][<>][a-z]{1,8}(,[0-4][<>][a-z]{1,8})*");

    private static final class Letter {
        int thread;
        int prison;
        int written;
        String original;
        String shown;
        int where;
        int came;
        int turned;
        int by = NONE;

        Letter copy() {
            Letter c = new Letter();
            c.thread = thread;
            c.prison = prison;
            c.written = written;
            c.original = original;
            c.shown = shown;
            c.where = where;
            c.came = came;
            c.turned = turned;
            c.by = by;
            return c;
        }

        int struck() {
            return (int) shown.chars().filter(s -> s == '*').count();
        }
    }

    private static final class State {
        int[] settings = {3, 2, 2};
        List<Set<Character>> strikes = new ArrayList<>();
        int[] read = new int[4];
        int[] struck = new int[4];
        int[] turned = new int[4];
        int[][] roster = new int[4][2];
        List<Letter> letters = new ArrayList<>();
        List<List<Integer>> rows = List.of(new ArrayList<>(), new ArrayList<>());
        int weeks;

        State() {
            for (int w = 0; w < 4; w++) {
                strikes.add(new HashSet<>());
                for (int p = 0; p < 2; p++) {
                    roster[w][p] = (w + p) % 4;
                }
            }
        }

        State copy() {
            State c = new State();
            c.settings = settings.clone();
            for (int i = 0; i < 4; i++) {
                c.strikes.get(i).addAll(strikes.get(i));
                c.roster[i] = roster[i].clone();
            }
            c.read = read.clone();
            c.struck = struck.clone();
            c.turned = turned.clone();
            for (Letter letter : letters) {
                c.letters.add(letter.copy());
            }
            c.rows.get(0).addAll(rows.get(0));
            c.rows.get(1).addAll(rows.get(1));
            c.weeks = weeks;
            return c;
        }

        /** A week as the document tells it; returns what it did to each letter, as why answers. */
        int[] week() {
            int[] fates = new int[letters.size()];
            Set<Integer> waiting = new HashSet<>();
            for (int i = 0; i < letters.size(); i++) {
                fates[i] = 1;
                if (letters.get(i).where == 0) {
                    waiting.add(i);
                }
            }
            List<Letter> through = new ArrayList<>();
            for (int p = 0; p < 2; p++) {
                int censor = roster[weeks % 4][p];
                int reads = 0;
                for (int n : List.copyOf(rows.get(p))) {
                    Letter letter = letters.get(n);
                    boolean blocked = false;
                    for (int m : waiting) {
                        blocked |= m < n && letters.get(m).thread == letter.thread;
                    }
                    if (blocked) {
                        fates[n] = 2;
                        continue;
                    }
                    if (reads == settings[0]) {
                        fates[n] = 3;
                        continue;
                    }
                    reads++;
                    read[censor]++;
                    StringBuilder shown = new StringBuilder();
                    for (char word : letter.original.toCharArray()) {
                        shown.append(strikes.get(censor).contains(word) ? '*' : word);
                    }
                    int hits = (int) shown.chars().filter(s -> s == '*').count();
                    rows.get(p).remove((Integer) n);
                    if (hits <= settings[1]) {
                        letter.shown = shown.toString();
                        letter.by = censor;
                        struck[censor] += hits;
                        through.add(letter);
                        fates[n] = 0;
                        continue;
                    }
                    turned[censor]++;
                    letter.turned++;
                    if (letter.turned >= settings[2]) {
                        letter.where = 2;
                        fates[n] = 5;
                    } else {
                        rows.get(p).add(n);
                        fates[n] = 4;
                    }
                }
            }
            weeks++;
            for (Letter letter : through) {
                letter.where = 1;
                letter.came = weeks;
            }
            return fates;
        }

        int are(int where) {
            return (int) letters.stream().filter(l -> l.where == where).count();
        }

        int struckInAll() {
            return letters.stream().filter(l -> l.where == 1).mapToInt(Letter::struck).sum();
        }

        State after(int howMany) {
            State then = copy();
            for (int i = 0; i < howMany; i++) {
                then.week();
            }
            return then;
        }
    }

    private State now = new State();
    private final Deque<State> past = new ArrayDeque<>();
    private final State[] slots = new State[2];
    private String pad = "";

    private void change() {
        past.addLast(now.copy());
        if (past.size() > 4) {
            past.removeFirst();
        }
    }

    private boolean no(int letter) {
        return letter < 0 || letter >= now.letters.size();
    }

    int set(int setting, int value) {
        int[][] ranges = {{1, 9}, {0, 8}, {1, 5}};
        if (setting < 0 || setting > 2 || value < ranges[setting][0] || value > ranges[setting][1]) {
            return BAD_VALUE;
        }
        change();
        int old = now.settings[setting];
        now.settings[setting] = value;
        return old;
    }

    int strike(int censor, int word) {
        if (censor < 0 || censor > 3 || word < 0 || word > 25) {
            return NO_SUCH;
        }
        change();
        Set<Character> words = now.strikes.get(censor);
        char c = (char) ('a' + word);
        if (!words.remove(c)) {
            words.add(c);
        }
        return words.size();
    }

    int trade(int one, int other) {
        if (one < 0 || one > 7 || other < 0 || other > 7) {
            return NO_SUCH;
        }
        if (now.roster[one / 2][one % 2] == now.roster[other / 2][other % 2]) {
            return NOT_POSSIBLE;
        }
        change();
        swap(now, one, other);
        return now.roster[one / 2][one % 2];
    }

    private static void swap(State s, int one, int other) {
        int c = s.roster[one / 2][one % 2];
        s.roster[one / 2][one % 2] = s.roster[other / 2][other % 2];
        s.roster[other / 2][other % 2] = c;
    }

    int read() {
        if (fault() != NONE) {
            return BAD_TEXT;
        }
        String[] texts = pad.split(",");
        if (now.letters.size() + texts.length > 40) {
            return TOO_MANY;
        }
        change();
        for (String text : texts) {
            Letter letter = new Letter();
            letter.thread = Integer.parseInt(text.substring(0, 1));
            letter.prison = text.charAt(1) == '>' ? 0 : 1;
            letter.original = text.substring(2);
            letter.shown = letter.original;
            letter.written = now.weeks;
            now.rows.get(letter.prison).add(now.letters.size());
            now.letters.add(letter);
        }
        pad = "";
        return now.letters.size();
    }

    int burn(int letter) {
        if (no(letter)) {
            return NO_SUCH;
        }
        if (now.letters.get(letter).where != 0) {
            return NOT_POSSIBLE;
        }
        change();
        Letter l = now.letters.get(letter);
        l.where = 2;
        now.rows.get(l.prison).remove((Integer) letter);
        return now.weeks - l.written;
    }

    int pass(int weeks) {
        if (weeks < 1 || weeks > 52) {
            return BAD_VALUE;
        }
        if (now.weeks + weeks > 9999) {
            return TOO_MANY;
        }
        change();
        int before = now.are(1);
        for (int i = 0; i < weeks; i++) {
            now.week();
        }
        return now.are(1) - before;
    }

    int letter(int letter, int what) {
        if (no(letter)) {
            return NO_SUCH;
        }
        if (what < 0 || what > 10) {
            return BAD_VALUE;
        }
        Letter l = now.letters.get(letter);
        int place = now.rows.get(l.prison).indexOf(letter);
        int ahead = NONE;
        for (int i = 0; i < letter; i++) {
            if (now.letters.get(i).thread == l.thread) {
                ahead = i;
            }
        }
        int[] answers = {l.thread, l.prison, l.where, place < 0 ? NONE : place, l.written,
            l.where == 1 ? l.came - l.written : NONE, l.struck(), l.turned, l.by, ahead, l.original.length()};
        return answers[what];
    }

    int word(int letter, int place) {
        if (no(letter) || place < 0 || place >= now.letters.get(letter).shown.length()) {
            return NO_SUCH;
        }
        return now.letters.get(letter).shown.charAt(place);
    }

    int why(int letter) {
        return no(letter) ? NO_SUCH : now.copy().week()[letter];
    }

    int censor(int censor, int what) {
        if (censor < 0 || censor > 3) {
            return NO_SUCH;
        }
        if (what < 0 || what > 4) {
            return BAD_VALUE;
        }
        int mask = 0;
        for (char word : now.strikes.get(censor)) {
            mask += 1 << (word - 'a');
        }
        int shifts = 0;
        for (int shift = 0; shift < 8; shift++) {
            shifts += now.roster[shift / 2][shift % 2] == censor ? 1 : 0;
        }
        return new int[] {mask, shifts, now.read[censor], now.struck[censor], now.turned[censor]}[what];
    }

    int onShift(int week, int prison) {
        if (prison < 0 || prison > 1) {
            return NO_SUCH;
        }
        return week < 0 || week > 9999 ? BAD_VALUE : now.roster[week % 4][prison];
    }

    int count(int what) {
        if (what < 0 || what > 15) {
            return BAD_VALUE;
        }
        if (what < 3) {
            return now.settings[what];
        }
        int sum = 0;
        int longest = 0;
        Set<Integer> threads = new HashSet<>();
        for (Letter letter : now.letters) {
            if (letter.where == 1) {
                sum += letter.came - letter.written;
                longest = Math.max(longest, letter.came - letter.written);
            } else if (letter.where == 0) {
                threads.add(letter.thread);
            }
        }
        return new int[] {now.weeks, now.letters.size(), now.are(0), now.are(1), now.are(2), now.rows.get(0).size(),
            now.rows.get(1).size(), sum, longest, now.struckInAll(), threads.size(), pad.length(), past.size()}[what - 3];
    }

    int untilCome(int letter) {
        if (no(letter)) {
            return NO_SUCH;
        }
        State then = now.copy();
        for (int passed = 0; passed <= 100; passed++) {
            if (then.letters.get(letter).where == 1) {
                return passed;
            }
            then.week();
        }
        return NONE;
    }

    int ifPassed(int weeks, int what) {
        if (weeks < 1 || weeks > 100 || what < 0 || what > 2) {
            return BAD_VALUE;
        }
        State then = now.after(weeks);
        return new int[] {then.are(1) - now.are(1), then.are(2) - now.are(2), then.struckInAll() - now.struckInAll()}[what];
    }

    int bestTrade() {
        int most = now.after(4).are(1);
        int best = NONE;
        for (int pair = 0; pair < 64; pair++) {
            if (pair / 8 < pair % 8) {
                State then = now.copy();
                swap(then, pair / 8, pair % 8);
                int come = then.after(4).are(1);
                if (come > most) {
                    most = come;
                    best = pair;
                }
            }
        }
        return best;
    }

    int leastLimit() {
        for (int limit = 0; limit <= 8; limit++) {
            State then = now.copy();
            then.settings[1] = limit;
            then = then.after(100);
            int back = 0;
            for (int i = 0; i < now.letters.size(); i++) {
                back += then.letters.get(i).turned - now.letters.get(i).turned;
            }
            if (back == 0) {
                return limit;
            }
        }
        return 8;
    }

    int put(long characters) {
        String text = "";
        boolean ended = false;
        boolean wrong = false;
        for (int i = 0; i < 8; i++) {
            int code = (int) ((characters >> (8 * i)) & 255);
            if (code == 0) {
                ended = true;
            } else if (ended || code < 33 || code > 126) {
                wrong = true;
            } else {
                text = (char) code + text;
            }
        }
        if (wrong || text.isEmpty()) {
            return BAD_VALUE;
        }
        if (pad.length() + text.length() > 60) {
            return TOO_MANY;
        }
        pad += text;
        return pad.length();
    }

    int wipe() {
        int length = pad.length();
        pad = "";
        return length;
    }

    int fault() {
        for (int i = 1; i <= pad.length(); i++) {
            Matcher m = TEXT.matcher(pad.substring(0, i));
            if (!m.matches() && !m.hitEnd()) {
                return i - 1;
            }
        }
        return TEXT.matcher(pad).matches() ? NONE : pad.length();
    }

    int undo() {
        if (past.isEmpty()) {
            return NOT_POSSIBLE;
        }
        now = past.removeLast();
        return past.size();
    }

    int save(int slot) {
        if (slot < 0 || slot > 1) {
            return BAD_VALUE;
        }
        slots[slot] = now.copy();
        return now.weeks;
    }

    int restore(int slot) {
        if (slot < 0 || slot > 1) {
            return BAD_VALUE;
        }
        if (slots[slot] == null) {
            return NOT_POSSIBLE;
        }
        change();
        now = slots[slot].copy();
        return now.weeks;
    }
}
